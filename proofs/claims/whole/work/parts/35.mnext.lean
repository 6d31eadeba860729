/-! ===== the reference: nextOf ===== -/
theorem besN_val {s x : Nat} : ∀ {k : Nat}, besN s k = some x → (k = 0 ∧ x + 8 = s) ∨ (k = 1 ∧ x + 1 = s) ∨ (k = 2 ∧ x = s + 1) ∨ (3 ≤ k ∧ x = s + 8)
  | 0, h => by
    have h : (if s < 8 then none else some (s - 8)) = some x := h
    by_cases z : s < 8 <;> simp [z] at h <;> omega
  | 1, h => by
    have h : (if s % 8 = 0 then none else some (s - 1)) = some x := h
    by_cases z : s % 8 = 0 <;> simp [z] at h <;> omega
  | 2, h => by
    have h : (if s % 8 = 7 then none else some (s + 1)) = some x := h
    by_cases z : s % 8 = 7 <;> simp [z] at h <;> omega
  | k + 3, h => by
    have h : (if 56 ≤ s then none else some (s + 8)) = some x := h
    by_cases z : 56 ≤ s <;> simp [z] at h <;> omega
theorem besN_mono {s i j x y : Nat} (hi : i < j) (hj : j < 4) (hx : besN s i = some x) (hy : besN s j = some y) : x < y := by
  have h1 := besN_val hx
  have h2 := besN_val hy
  omega
section PZ
variable {M : am_I} {N : am_N} {post : Int32 → am_I → am_N → Prop} {q goal : Nat} {bes : Int32}
/-- x is a next cell of a best way -/
def nxt (M : am_I) (q : Nat) (R : Nat → Prop) (aN : Nat → Nat) (s x : Nat) : Prop := nbr s x ∧ okM M q x ∧ R x ∧ aN x + (1000000 * hN M q x + 1) = aN s
theorem mn_loop (hB : wayB M q) {s : Nat} (hs : s < 64) {R : Nat → Prop} {aN : Nat → Nat} {nd : Nat} (hnd : nd ≤ 64) (D : bjkEnd nbr (okM M q) (hN M q) (GoalN goal bes) nd R aN) (hA : awR R aN (N (3, 0, 24)))
    (kx : ∀ x, nxt M q R aN s x → R s → (∀ y, nxt M q R aN s y → x ≤ y) → post (nI x) M N) (kn : (R s → ∀ y, ¬ nxt M q R aN s y) → post (-1) M N) (kf : ¬ R s → ∀ x, x < 64 → post (nI x) M N) :
    ∀ (j k : Nat), k + j = 4 → (R s → ∀ i, i < k → ∀ x, besN s i = some x → ¬ nxt M q R aN s x) → ∃ n, w_X12_nextOf_p15 post n (nI q) (nI s) (nI k) M N := by
  intro j
  induction j with
  | zero =>
    intro k hk hno
    have e : k = 4 := by omega
    subst e
    refine ⟨1, ?_⟩
    rw [w_X12_nextOf_p15_s]
    unfold w_X12_nextOf_p15_b
    refine ⟨fun _ => kn (fun hR y hy => ?_), fun z => absurd (Int32.le_refl _) z⟩
    obtain ⟨-, -, i, hi, hb⟩ := hy.1
    exact hno hR i hi y hb hy
  | succ j ih =>
    intro k hk hno
    have hk4 : k < 4 := by omega
    have close : (∃ n, w_X12_nextOf_p15_b post (w_X12_nextOf_p15 post n) (nI q) (nI s) (nI k) M N) → ∃ n, w_X12_nextOf_p15 post n (nI q) (nI s) (nI k) M N := fun ⟨n, h⟩ => ⟨n + 1, h⟩
    apply close
    unfold w_X12_nextOf_p15_b
    simp only [eq_X12_besN hs hk4, nI_1]
    have next : (R s → ∀ x, besN s k = some x → ¬ nxt M q R aN s x) → ∃ n, w_X12_nextOf_p15 post n (nI q) (nI s) (nI (k + 1)) M N := fun h => ih (k + 1) (by omega) (fun hR i hi x hx => by
      by_cases e : i = k
      · subst e; exact h hR x hx
      · exact hno hR i (by omega) x hx)
    cases hb : besN s k with
    | none =>
      obtain ⟨n, hn⟩ := next (fun _ x hx => by rw [hb] at hx; cases hx)
      rw [besV_none hb]
      exact ⟨n, fun z => absurd z (nI_ge (b := 4) hk4 (by omega)), fun _ => ⟨fun _ => hn, fun z => absurd rfl z⟩⟩
    | some x =>
      have hx64 : x < 64 := besN_lt s hs k hk4 x hb
      have hnb : nbr s x := ⟨hs, hx64, k, hk4, hb⟩
      rw [besV_some hb]
      simp only [eq_X12_heavy hB.1 hx64, nI_clamp (show x < 2 ^ 31 by omega), nI_clamp (show s < 2 ^ 31 by omega)]
      by_cases hok : okM M q x
      · obtain ⟨ehv, hhv, hle⟩ := hv_N hB hx64
        have hle := hle hok
        have eh : (1000000 : Int64) * (hvI M q x).toInt64 = lN (1000000 * hN M q x) := by rw [ehv, nI_l (by omega)]; exact lN_mul _ _
        by_cases heq : N (3, 0, 24) x + 1000000 * (hvI M q x).toInt64 + 1 = N (3, 0, 24) s
        · refine ⟨0, fun z => absurd z (nI_ge (b := 4) hk4 (by omega)), fun _ => ⟨fun z => absurd z (nI_ne_m1 (by omega)), fun _ => sp_X12_mayEnter hB.1 hx64 (fun _ => ⟨fun z => absurd z (by decide), fun _ => ⟨vp_in_nI hx64 (by omega), vp_in_nI hs (by omega), fun z => absurd heq z, fun _ => ?_⟩⟩) (fun z => absurd hok z)⟩⟩
          by_cases hRs : R s
          · have as := (hA s hs).1 hRs
            have ss := bjk_small D hnd hRs
            by_cases hRx : R x
            · have ax := (hA x hx64).1 hRx
              have sx := bjk_small D hnd hRx
              rw [ax, as, eh, lN_add, lN_1] at heq
              have e2 : aN x + 1000000 * hN M q x + 1 = aN s := (pk_lEQ (by omega) (by omega)).mp heq
              refine kx x ⟨hnb, hok, hRx, by omega⟩ hRs (fun y hy => ?_)
              obtain ⟨-, -, i, hi, hby⟩ := hy.1
              rcases Nat.lt_trichotomy i k with z | z | z
              · exact absurd hy (hno hRs i z y hby)
              · subst z; rw [hb] at hby; cases hby; exact Nat.le_refl _
              · exact Nat.le_of_lt (besN_mono z hi hb hby)
            · have ax := (hA x hx64).2 hRx
              rw [ax, as, eh, lN_add, lN_1] at heq
              have e2 := (pk_lEQ (by unfold FARN; omega) (by omega)).mp heq
              unfold FARN at e2
              omega
          · exact kf hRs x hx64
        · obtain ⟨n, hn⟩ := next (fun hRs y hy hn => by
            rw [hb] at hy
            cases hy
            obtain ⟨-, -, hRx, e2⟩ := hn
            apply heq
            have sx := bjk_small D hnd hRx
            rw [(hA x hx64).1 hRx, (hA s hs).1 hRs, eh, lN_add, lN_1, show aN x + 1000000 * hN M q x + 1 = aN s by omega])
          exact ⟨n, fun z => absurd z (nI_ge (b := 4) hk4 (by omega)), fun _ => ⟨fun z => absurd z (nI_ne_m1 (by omega)), fun _ => sp_X12_mayEnter hB.1 hx64 (fun _ => ⟨fun z => absurd z (by decide), fun _ => ⟨vp_in_nI hx64 (by omega), vp_in_nI hs (by omega), fun _ => hn, fun z => absurd z heq⟩⟩) (fun z => absurd hok z)⟩⟩
      · obtain ⟨n, hn⟩ := next (fun _ y hy hn => by
          rw [hb] at hy
          cases hy
          exact hok hn.2.1)
        exact ⟨n, fun z => absurd z (nI_ge (b := 4) hk4 (by omega)), fun _ => ⟨fun z => absurd z (nI_ne_m1 (by omega)), fun _ => sp_X12_mayEnter hB.1 hx64 (fun z => absurd z hok) (fun _ => ⟨fun _ => hn, fun z => absurd rfl z⟩)⟩⟩
theorem nxt_some {s : Nat} {R : Nat → Prop} {aN : Nat → Nat} {nd : Nat} (D : bjkEnd nbr (okM M q) (hN M q) (GoalN goal bes) nd R aN) (hR : R s) (hG : ¬ GoalN goal bes s) : ∃ x, nxt M q R aN s x := by
  obtain ⟨k, C, g, q0, q1, q2, -, -⟩ := D.2.2.1 s hR
  cases k with
  | zero =>
    obtain ⟨e, -⟩ := q1
    exact absurd (e ▸ q0) hG
  | succ k =>
    obtain ⟨x, E, r1, r2, r3, r4⟩ := q1
    obtain ⟨y1, y2⟩ := bjkEnd_le nbr_sym D q0 r3
    obtain ⟨-, -, -, -, y3⟩ := D.2.2.2.1 x s ⟨y1, nbr_sym _ _ r1, r2⟩
    exact ⟨x, r1, r2, y1, by omega⟩
theorem aN_zero {s : Nat} {R : Nat → Prop} {aN : Nat → Nat} {nd : Nat} (D : bjkEnd nbr (okM M q) (hN M q) (GoalN goal bes) nd R aN) (hR : R s) : aN s = 0 ↔ GoalN goal bes s := by
  constructor
  · intro e
    obtain ⟨k, C, g, q0, q1, q2, -, -⟩ := D.2.2.1 s hR
    have hk : k = 0 := by omega
    subst hk
    obtain ⟨e1, -⟩ := q1
    exact e1 ▸ q0
  · exact fun h => (D.1 s h).2
/-- nextOf(cart, from) of the reference, behind ways -/
theorem sp_X12_nextOf (hB : wayB M q) {s : Nat} (hs : s < 64) {R : Nat → Prop} {aN : Nat → Nat} (hE : wayEnd M q goal bes R aN (N (3, 0, 24)))
    (kk : ∀ r : Int32, (GoalN goal bes s → r = nI s) → (R s → ¬ GoalN goal bes s → ∃ x, r = nI x ∧ isLeast (nxt M q R aN s) x) → post r M N) : w_X12_nextOf (nI q) (nI s) M N post := by
  obtain ⟨nd, hnd, D, hR64, hA⟩ := hE
  unfold w_X12_nextOf
  rw [nI_clamp (show s < 2 ^ 31 by omega)]
  refine ⟨vp_in_nI hs (by omega), fun hne => ?_, fun he => ?_⟩
  · have hG : ¬ GoalN goal bes s := by
      intro z
      apply hne
      rw [(hA s hs).1 (D.1 s z).1, (D.1 s z).2]
      rfl
    refine mn_loop hB hs hnd D hA (fun x hx hRs hl => kk _ (fun z => absurd z hG) (fun _ _ => ⟨x, rfl, hx, hl⟩)) (fun h => kk _ (fun z => absurd z hG) (fun hRs _ => ?_)) (fun hRs x _ => kk _ (fun z => absurd z hG) (fun z => absurd z hRs)) 4 0 (by omega) (fun _ i hi => by omega)
    obtain ⟨x, hx⟩ := nxt_some D hRs hG
    exact absurd hx (h hRs x)
  · have hRs : R s := Classical.byContradiction fun z => by
      rw [(hA s hs).2 z] at he
      exact absurd he (by decide)
    have hG : GoalN goal bes s := (aN_zero D hRs).mp (by
      rw [(hA s hs).1 hRs] at he
      have sm := bjk_small D hnd hRs
      exact (pk_lEQ (b := 0) (by omega) (by omega)).mp he)
    exact kk _ (fun _ => rfl) (fun _ z => absurd hG z)
end PZ
