/-! ===== more questions: both sides ===== -/
noncomputable def cntI (P : Nat → Prop) : Nat → Int32
  | 0 => 0
  | n + 1 => @ite _ (P n) (Classical.propDecidable _) (cntI P n + 1) (cntI P n)
theorem cntI_t {P : Nat → Prop} {n : Nat} (h : P n) : cntI P (n + 1) = cntI P n + 1 := by
  conv => lhs; unfold cntI
  exact if_pos h
theorem cntI_f {P : Nat → Prop} {n : Nat} (h : ¬ P n) : cntI P (n + 1) = cntI P n := by
  conv => lhs; unfold cntI
  exact if_neg h
theorem cntI_cg {P Q : Nat → Prop} : ∀ {n : Nat}, (∀ i, i < n → (P i ↔ Q i)) → cntI P n = cntI Q n
  | 0, _ => rfl
  | n + 1, h => by
    have ih := cntI_cg (n := n) (fun i hi => h i (by omega))
    by_cases e : Q n
    · rw [cntI_t ((h n (by omega)).mpr e), cntI_t e, ih]
    · rw [cntI_f (fun z => e ((h n (by omega)).mp z)), cntI_f e, ih]
theorem cntI_more {P : Nat → Prop} {n : Nat} : ∀ j, (∀ i, n ≤ i → i < n + j → ¬ P i) → cntI P (n + j) = cntI P n
  | 0, _ => rfl
  | j + 1, h => by
    rw [← Nat.add_assoc, cntI_f (h (n + j) (by omega) (by omega))]
    exact cntI_more j (fun i h1 h2 => h i h1 (by omega))
theorem inI {x : Int32} {n : Nat} (hn : n < 2 ^ 31) : (0 ≤ x ∧ x ≤ nI n - 1) ↔ ∃ j, j < n ∧ x = nI j := by
  constructor
  · rintro ⟨h1, h2⟩
    rcases pk_ix x hn with h | h | h
    · exact absurd h1 (Int32.not_le.mpr h)
    · exfalso
      by_cases e : n = 0
      · subst e
        have h3 : x ≤ -1 := h2
        exact absurd (Int32.le_trans h1 h3) (by decide)
      · have e1 : nI n - 1 = nI (n - 1) := pk_sub (b := 1) (by omega)
        rw [e1] at h2
        exact absurd (Int32.le_trans h h2) (nI_ge (by omega) hn)
    · exact h
  · rintro ⟨j, hj, rfl⟩
    have e1 : nI n - 1 = nI (n - 1) := pk_sub (b := 1) (by omega)
    rw [e1]
    exact ⟨nI_pos' (by omega), nI_le (by omega) (by omega)⟩
section Q2
variable {M : am_I} {N : am_N} {b : Nat} {bk : Bk} {cn full : Cn} {f : Nat → Int32} {fe lo : Int64} {W q c w n t wi : Nat} {a a1 a2 a3 : Int32} {post : Int32 → am_I → am_N → Prop} {postL : Int64 → am_I → am_N → Prop} {but : Nat → Nat → Prop}
theorem c_has (hT : tabOK M t wi n) (h1 : ∀ j, j < n → a = nI j → post 1 M N) (h0 : (¬ ∃ j, j < n ∧ a = nI j) → post 0 M N) : w_X9_has t a M N post := by
  unfold w_X9_has
  rw [hT.2.1]
  have hn : n < 2 ^ 31 := hT.2.2.2.2.1
  rcases pk_ix a hn with h | h | ⟨j, hj, e⟩
  · exact ⟨fun _ => h0 (fun ⟨j, hj, e⟩ => by rw [e] at h; exact absurd h (nI_pos (by omega))), fun z => absurd h z⟩
  · refine ⟨fun z => h0 (fun ⟨j, hj, e⟩ => by rw [e] at h; exact absurd h (nI_ge hj hn)), fun _ => ⟨fun _ => h0 (fun ⟨j, hj, e⟩ => by rw [e] at h; exact absurd h (nI_ge hj hn)), fun z => absurd h z⟩⟩
  · subst e
    exact ⟨fun z => absurd z (nI_pos (by omega)), fun _ => ⟨fun z => absurd z (nI_ge hj hn), fun _ => h1 j hj rfl⟩⟩
theorem r_isIn (hn : n < 2 ^ 31) (h1 : ∀ j, j < n → a = nI j → post 1 M N) (h0 : (¬ ∃ j, j < n ∧ a = nI j) → post 0 M N) : w_X12_isIn a 0 (nI n - 1) M N post := by
  refine eq_X12_isIn.mpr ?_
  by_cases e : ∃ j, j < n ∧ a = nI j
  · rw [am_bt ((inI hn).mpr e)]
    obtain ⟨j, hj, ej⟩ := e
    exact h1 j hj ej
  · rw [am_bf (fun z => e ((inI hn).mp z))]
    exact h0 e
theorem r_isInM {m : Int32} (hm : m = nI n) (hn : n < 2 ^ 31) (h1 : ∀ j, j < n → a = nI j → post 1 M N) (h0 : (¬ ∃ j, j < n ∧ a = nI j) → post 0 M N) : w_X12_isIn a 0 (m - 1) M N post := by
  rw [hm]
  exact r_isIn hn h1 h0
theorem c_stands (S : StC b bk cn full but M N f fe lo) (h1 : ∀ c, c < 64 → a = nI c → f (192 + c) = 1 → post 1 M N) (h0 : (¬ ∃ c, c < 64 ∧ a = nI c ∧ f (192 + c) = 1) → post 0 M N) : w_X6_standsOn b a M N post := by
  by_cases e : 0 ≤ a ∧ a ≤ 63
  · obtain ⟨c, hc, ec⟩ := nI_of2 (M := 63) (n := 63) rfl (Int32.not_lt.mpr e.1) e.2
    subst ec
    refine sp_X6_standsOn (show c < 64 by omega) (fun z => h1 c (by omega) rfl ((S.w.p.st c (by omega)).mp z)) (fun z => h0 (fun ⟨c', hc', e1, e2⟩ => ?_))
    have : c' = c := ((nI_eq (by omega) (by omega)).mp e1).symm
    subst this
    exact (tb_st S hc').mp z e2
  · exact sp_X6_standsOut e (h0 (fun ⟨c, hc, e1, _⟩ => e (by rw [e1]; exact ⟨nI_pos' (by omega), nI_le (b := 63) (by omega) (by omega)⟩)))
theorem r_has (S : StM bk cn but M N f fe lo) (h1 : ∀ c, c < 64 → a = nI c → f (192 + c) = 1 → post 1 M N) (h0 : (¬ ∃ c, c < 64 ∧ a = nI c ∧ f (192 + c) = 1) → post 0 M N) : w_X12_has a M N post := by
  unfold w_X12_has
  refine eq_X12_isCell.mpr ?_
  by_cases e : 0 ≤ a ∧ a ≤ 63
  · rw [am_bt e]
    obtain ⟨c, hc, ec⟩ := nI_of2 (M := 63) (n := 63) rfl (Int32.not_lt.mpr e.1) e.2
    subst ec
    have i1 : (192 + nI c).toNatClampNeg = 192 + c := by rw [ix192, nI_clamp (by omega)]
    have v1 : vp_in (192 + nI c) 1635 := by rw [ix192]; exact vp_in_nI (by omega) (by omega)
    rw [i1, S.f]
    refine ⟨fun z => absurd z (by decide), fun _ => ⟨v1, fun z => h0 (fun ⟨c', hc', e1, e2⟩ => ?_), fun z => h1 c (by omega) rfl z⟩⟩
    have : c' = c := ((nI_eq (by omega) (by omega)).mp e1).symm
    subst this
    exact z e2
  · rw [am_bf e]
    exact ⟨fun _ => h0 (fun ⟨c, hc, e1, _⟩ => e (by rw [e1]; exact ⟨nI_pos' (by omega), nI_le (b := 63) (by omega) (by omega)⟩)), fun z => absurd rfl z⟩
theorem q_share (S : StC 0 bk cn cn but M N f fe lo) (T : StM bk cn but M N f fe lo) (hk : M (3, 0, 0) 14 = nI cn.k) : ∃ v, (∀ post, post v M N → w_X11_share a1 a2 M N post) ∧ ∀ post, post v M N → w_X12_share a1 a2 M N post := by
  have h5 := S.fb.2.2.2.2
  by_cases e : ∃ c, c < 64 ∧ a1 = nI c ∧ f (192 + c) = 1
  · obtain ⟨c, hc, e1, e2⟩ := e
    by_cases e3 : ∃ j, j < cn.k ∧ a2 = nI j
    · obtain ⟨k, hk5, e4⟩ := e3
      subst e1
      subst e4
      refine ⟨f (640 + 5 * c + k), fun post h => ?_, fun post h => ?_⟩
      · unfold w_X11_share
        refine c_stands S (fun _ _ _ _ => ⟨fun z => absurd z (by decide), fun _ => c_has S.k.t4 (fun _ _ _ => ⟨fun _ => c_shareOf hc (by omega) ?_, fun z => absurd z (by decide)⟩) (fun z => absurd ⟨k, hk5, rfl⟩ z)⟩) (fun z => absurd ⟨c, hc, rfl, e2⟩ z)
        rw [S.w.p.sh c hc e2 k (by omega)]
        exact h
      · have e : 640 + 5 * nI c + nI k = nI (640 + 5 * c + k) := by rw [xm5, ix640, nI_add]
        unfold w_X12_share
        refine r_has T (fun _ _ _ _ => ⟨fun z => absurd z (by decide), fun _ => r_isInM hk (by omega) (fun _ _ _ => ⟨fun z => absurd z (by decide), fun _ => ?_⟩) (fun z => absurd ⟨k, hk5, rfl⟩ z)⟩) (fun z => absurd ⟨c, hc, rfl, e2⟩ z)
        rw [e, nI_clamp (by omega), T.f]
        exact ⟨vp_in_nI (by omega) (by omega), h⟩
    · refine ⟨-1, fun post h => ?_, fun post h => ?_⟩
      · unfold w_X11_share
        exact c_stands S (fun _ _ _ _ => ⟨fun z => absurd z (by decide), fun _ => c_has S.k.t4 (fun j hj ej => absurd ⟨j, hj, ej⟩ e3) (fun _ => ⟨fun z => absurd rfl z, fun _ => h⟩)⟩) (fun _ => ⟨fun _ => h, fun z => absurd rfl z⟩)
      · unfold w_X12_share
        exact r_has T (fun _ _ _ _ => ⟨fun z => absurd z (by decide), fun _ => r_isInM hk (by omega) (fun j hj ej => absurd ⟨j, hj, ej⟩ e3) (fun _ => ⟨fun _ => h, fun z => absurd rfl z⟩)⟩) (fun _ => ⟨fun _ => h, fun z => absurd rfl z⟩)
  · refine ⟨-1, fun post h => ?_, fun post h => ?_⟩
    · unfold w_X11_share
      exact c_stands S (fun c hc e1 e2 => absurd ⟨c, hc, e1, e2⟩ e) (fun _ => ⟨fun _ => h, fun z => absurd rfl z⟩)
    · unfold w_X12_share
      exact r_has T (fun c hc e1 e2 => absurd ⟨c, hc, e1, e2⟩ e) (fun _ => ⟨fun _ => h, fun z => absurd rfl z⟩)
theorem q_cell {wd : Nat → Nat} (S : StC 0 bk cn cn but M N f fe lo) (T : StM bk cn but M N f fe lo) (G : GoodF W cn f) (D : WdOK M cn wd) : ∃ v, (∀ post, post v M N → w_X11_cell a1 a2 M N post) ∧ ∀ post, post v M N → w_X12_cell a1 a2 M N post := by
  by_cases e : 0 ≤ a1 ∧ a1 ≤ 63
  · obtain ⟨c, hc, ec⟩ := nI_of2 (M := 63) (n := 63) rfl (Int32.not_lt.mpr e.1) e.2
    subst ec
    refine ⟨cellV wd f c a2, fun post h => ?_, fun post h => ?_⟩
    · unfold w_X11_cell
      refine eq_X11_isCell.mpr ?_
      rw [am_bt e]
      refine ⟨fun z => absurd z (by decide), fun _ => eq_X11_within.mpr ?_⟩
      by_cases e2 : 0 ≤ a2 ∧ a2 ≤ 10
      · rw [am_bt e2]
        exact ⟨fun _ => c_fact S G D (by omega) h, fun z => absurd z (by decide)⟩
      · rw [am_bf e2]
        have hv : cellV wd f c a2 = -1 := by
          have n : ∀ k : Int32, 0 ≤ k ∧ k ≤ 10 → ¬ a2 = k := fun k hk z => e2 (by rw [z]; exact hk)
          unfold cellV
          rw [if_neg (n 0 (by decide)), if_neg (n 1 (by decide)), if_neg (n 2 (by decide)), if_neg (n 3 (by decide)), if_neg (n 4 (by decide)), if_neg (n 5 (by decide)), if_neg (n 6 (by decide)), if_neg (n 7 (by decide)), if_neg (n 8 (by decide)), if_neg (n 9 (by decide)), if_neg (n 10 (by decide))]
        rw [hv] at h
        exact ⟨fun z => absurd rfl z, fun _ => h⟩
    · unfold w_X12_cell
      refine eq_X12_isCell.mpr ?_
      rw [am_bt e]
      exact ⟨fun z => absurd z (by decide), fun _ => r_cellOf T D (by omega) h⟩
  · refine ⟨-1, fun post h => ?_, fun post h => ?_⟩
    · unfold w_X11_cell
      refine eq_X11_isCell.mpr ?_
      rw [am_bf e]
      exact ⟨fun _ => h, fun z => absurd rfl z⟩
    · unfold w_X12_cell
      refine eq_X12_isCell.mpr ?_
      rw [am_bf e]
      exact ⟨fun _ => h, fun z => absurd rfl z⟩
theorem q_job (S : StC 0 bk cn cn but M N f fe lo) (T : StM bk cn but M N f fe lo) (hk : M (3, 0, 0) 12 = nI cn.w) : ∃ v, (∀ post, post v M N → w_X11_job a1 a2 M N post) ∧ ∀ post, post v M N → w_X12_job a1 a2 M N post := by
  have h60 := S.fb.2.2.1
  by_cases e : ∃ j, j < cn.w ∧ a1 = nI j
  · obtain ⟨w, hw, e1⟩ := e
    subst e1
    have vw : vp_in (nI w) 60 := vp_in_nI (by omega) (by omega)
    have j1 : (1504 + nI w).toNatClampNeg = 1504 + w := by rw [ix1504, nI_clamp (by omega)]
    have u1 : vp_in (1504 + nI w) 1635 := by rw [ix1504]; exact vp_in_nI (by omega) (by omega)
    have j2 : (1564 + nI w).toNatClampNeg = 1564 + w := by rw [ix1564, nI_clamp (by omega)]
    have u2 : vp_in (1564 + nI w) 1635 := by rw [ix1564]; exact vp_in_nI (by omega) (by omega)
    refine ⟨if a2 = 0 then nI (bk.wK w) else if a2 = 1 then nI (bk.wC w) else if a2 = 2 then nI (bk.wM w) else if a2 = 3 then f (1504 + w) else if a2 = 4 then f (1564 + w) else -2, fun post h => ?_, fun post h => ?_⟩
    · unfold w_X11_job
      refine c_has S.k.t3 (fun _ _ _ => ⟨fun _ => ⟨fun z => sp_at (w := 3) (c := 0) S.k.t3 hw (by omega) ?_, fun z => sp_at (w := 3) (c := 1) S.k.t3 hw (by omega) ?_, fun z => sp_at (w := 3) (c := 2) S.k.t3 hw (by omega) ?_, fun z => ?_, fun z => ?_, fun n0 n1 n2 n3 n4 => ?_⟩, fun z => absurd z (by decide)⟩) (fun z => absurd ⟨w, hw, rfl⟩ z)
      · rw [(S.k.w w hw).1]; rw [if_pos z] at h; exact h
      · rw [(S.k.w w hw).2.1]; subst z; exact h
      · rw [(S.k.w w hw).2.2]; subst z; exact h
      · subst z
        unfold w_X10_stateOfWork
        refine eq_X11_within.mpr ?_
        rw [am_bt ⟨nI_pos' (by omega), nI_le (b := 59) (by omega) (by omega)⟩, nI_clamp (show w < 2 ^ 31 by omega), (S.w.k.on w hw).1]
        exact ⟨fun z => absurd z (by decide), fun _ => ⟨vw, h⟩⟩
      · subst z
        unfold w_X10_doerOfWork
        refine eq_X11_within.mpr ?_
        rw [am_bt ⟨nI_pos' (by omega), nI_le (b := 59) (by omega) (by omega)⟩, nI_clamp (show w < 2 ^ 31 by omega), (S.w.k.on w hw).2]
        exact ⟨fun z => absurd z (by decide), fun _ => ⟨vw, h⟩⟩
      · rw [if_neg n0, if_neg n1, if_neg n2, if_neg n3, if_neg n4] at h; exact h
    · unfold w_X12_job
      rw [hk, j1, j2, nI_clamp (show w < 2 ^ 31 by omega)]
      refine r_isIn (by omega) (fun _ _ _ => ⟨fun _ => ⟨fun z => ⟨vw, ?_⟩, fun z => ⟨vw, ?_⟩, fun z => ⟨vw, ?_⟩, fun z => ⟨u1, ?_⟩, fun z => ⟨u2, ?_⟩, fun n0 n1 n2 n3 n4 => ?_⟩, fun z => absurd z (by decide)⟩) (fun z => absurd ⟨w, hw, rfl⟩ z)
      · rw [(T.k.w w hw).1]; rw [if_pos z] at h; exact h
      · rw [(T.k.w w hw).2.1]; subst z; exact h
      · rw [(T.k.w w hw).2.2]; subst z; exact h
      · rw [T.f]; subst z; exact h
      · rw [T.f]; subst z; exact h
      · rw [if_neg n0, if_neg n1, if_neg n2, if_neg n3, if_neg n4] at h; exact h
  · refine ⟨-2, fun post h => ?_, fun post h => ?_⟩
    · unfold w_X11_job
      exact c_has S.k.t3 (fun j hj ej => absurd ⟨j, hj, ej⟩ e) (fun _ => ⟨fun z => absurd rfl z, fun _ => h⟩)
    · unfold w_X12_job
      rw [hk]
      exact r_isIn (by omega) (fun j hj ej => absurd ⟨j, hj, ej⟩ e) (fun _ => ⟨fun z => absurd rfl z, fun _ => h⟩)
def wetS (f : Nat → Int32) : Nat → Int64
  | 0 => 0
  | n + 1 => wetS f n + (f (64 + n)).toInt64
theorem q_water (S : StC 0 bk cn cn but M N f fe lo) (T : StM bk cn but M N f fe lo) : ∃ v, (∀ post, post v M N → w_X11_water a1 M N post) ∧ ∀ post, post v M N → w_X12_water a1 M N post := by
  refine ⟨if a1 = 0 then wetS f 64 else if a1 = 1 then fe else if a1 = 2 then lo else -1, fun post h => ?_, fun post h => ?_⟩
  · unfold w_X11_water
    refine ⟨fun z => ?_, fun z => ?_, fun z => ?_, fun n0 n1 n2 => ?_⟩
    · rw [if_pos z] at h
      unfold w_X2_allWet
      refine ⟨65, ?_⟩
      have key : ∀ (j c : Nat), c + j = 64 → w_X2_allWet_p4 0 post (j + 1) (wetS f c) (nI c) M N := by
        intro j
        induction j with
        | zero =>
          intro c hc
          have hc' : c = 64 := by omega
          subst hc'
          rw [w_X2_allWet_p4_s]
          unfold w_X2_allWet_p4_b
          exact ⟨fun _ => h, fun z => absurd (nI_le (a := 64) (b := 64) (by omega) (by omega)) z⟩
        | succ j ih =>
          intro c hc
          rw [w_X2_allWet_p4_s]
          unfold w_X2_allWet_p4_b
          rw [nI_clamp (show c < 2 ^ 31 by omega), S.w.g.we c (by omega), nI_1]
          refine ⟨fun z => absurd z (nI_ge (b := 64) (by omega) (by omega)), fun _ => ⟨vp_in_nI (by omega) (by omega), fun v ev => ?_⟩⟩
          subst ev
          exact ih (c + 1) (by omega)
      exact key 64 0 (by omega)
    · subst z; rw [S.w.fe]; exact h
    · subst z; rw [S.w.lo]; exact h
    · rw [if_neg n0, if_neg n1, if_neg n2] at h; exact h
  · unfold w_X12_water
    refine ⟨65, ?_⟩
    have key : ∀ (j c : Nat), c + j = 64 → w_X12_water_p5 post (j + 1) a1 (wetS f c) (nI c) M N := by
      intro j
      induction j with
      | zero =>
        intro c hc
        have hc' : c = 64 := by omega
        subst hc'
        rw [w_X12_water_p5_s]
        unfold w_X12_water_p5_b
        rw [T.fe, T.lo]
        refine ⟨fun _ => ⟨fun n0 => ⟨fun n1 => ⟨fun n2 => ?_, fun z => ?_⟩, fun z => ?_⟩, fun z => ?_⟩, fun z => absurd (nI_le (a := 64) (b := 64) (by omega) (by omega)) z⟩
        · rw [if_neg n0, if_neg n1, if_neg n2] at h; exact h
        · subst z; exact h
        · subst z; exact h
        · rw [if_pos z] at h; exact h
      | succ j ih =>
        intro c hc
        have i1 : (64 + nI c).toNatClampNeg = 64 + c := by rw [ix64, nI_clamp (by omega)]
        have v1 : vp_in (64 + nI c) 1635 := by rw [ix64]; exact vp_in_nI (by omega) (by omega)
        rw [w_X12_water_p5_s]
        unfold w_X12_water_p5_b
        rw [i1, T.f, nI_1]
        refine ⟨fun z => absurd z (nI_ge (b := 64) (by omega) (by omega)), fun _ => ⟨v1, fun v ev => ?_⟩⟩
        subst ev
        exact ih (c + 1) (by omega)
    exact key 64 0 (by omega)
end Q2
