/-! ===== the reference: heavy, mayEnter, ways ===== -/
def hvI (M : am_I) (q c : Nat) : Int32 := M (3, 0, 12) q * (1 + M (3, 0, 1) (64 + c) / 100)
def okM (M : am_I) (q c : Nat) : Prop := c < 64 ∧ M (3, 0, 1) (992 + 64 * q + c) = 0 ∧ ¬ M (3, 0, 1) 1626 < M (3, 0, 1) (128 + c) + hvI M q c
def hN (M : am_I) (q c : Nat) : Nat := (hvI M q c).toNatClampNeg
/-- what keeps the numbers small -/
def wayB (M : am_I) (q : Nat) : Prop := q < 8 ∧ (∃ w, w ≤ 50 ∧ M (3, 0, 12) q = nI w) ∧ (∀ c, c < 64 → ∃ t, t < 2 ^ 31 ∧ M (3, 0, 1) (64 + c) = nI t) ∧ (∀ c, c < 64 → ∃ t, t ≤ 9999 ∧ M (3, 0, 1) (128 + c) = nI t) ∧ ∃ t, t ≤ 9999 ∧ M (3, 0, 1) 1626 = nI t
theorem hv_N {M : am_I} {q c : Nat} (hB : wayB M q) (hc : c < 64) : hvI M q c = nI (hN M q c) ∧ hN M q c < 2 ^ 30 + 2 ^ 29 ∧ (okM M q c → hN M q c ≤ 9999) := by
  obtain ⟨hq, ⟨w, hw, ew⟩, h1, h2, L, hL, eL⟩ := hB
  obtain ⟨t, ht, et⟩ := h1 c hc
  obtain ⟨r, hr, er⟩ := h2 c hc
  have hd : t / 100 ≤ 21474836 := by omega
  have hm : w * (1 + t / 100) ≤ 50 * 21474837 := Nat.mul_le_mul hw (by omega)
  have e1 : hvI M q c = nI (w * (1 + t / 100)) := by
    unfold hvI
    rw [ew, et]
    rw [show nI t / 100 = nI (t / 100) from pk_div (d := 100) ht (by omega) (by omega), show (1 : Int32) + nI (t / 100) = nI (1 + t / 100) from nI_add 1 _, pk_mul]
  have e2 : hN M q c = w * (1 + t / 100) := by
    unfold hN
    rw [e1]
    exact nI_clamp (by omega)
  refine ⟨by rw [e1, e2], by omega, ?_⟩
  rintro ⟨-, -, ho⟩
  rw [e1, er, eL, nI_add] at ho
  have : ¬ L < r + w * (1 + t / 100) := fun z => ho ((nI_ltI (by omega) (by omega)).mpr z)
  omega
section PW
variable {M : am_I} {N : am_N} {post : Int32 → am_I → am_N → Prop} {postV : am_I → am_N → Prop} {q c : Nat}
theorem eq_X12_heavy (hq : q < 8) (hc : c < 64) : w_X12_heavy (nI q) (nI c) M N post ↔ post (hvI M q c) M N := by
  unfold w_X12_heavy hvI
  rw [ix64, nI_clamp (show q < 2 ^ 31 by omega), nI_clamp (show 64 + c < 2 ^ 31 by omega)]
  exact ⟨fun h => h.2.2, fun h => ⟨vp_in_nI hq (by omega), vp_in_nI (by omega) (by omega), h⟩⟩
theorem sp_X12_mayEnter (hq : q < 8) (hc : c < 64) (h1 : okM M q c → post 1 M N) (h0 : ¬ okM M q c → post 0 M N) : w_X12_mayEnter (nI q) (nI c) M N post := by
  unfold w_X12_mayEnter
  simp only [eq_X12_heavy hq hc]
  have e : (992 : Int32) + 64 * nI q + nI c = nI (992 + 64 * q + c) := by rw [xm64, ix992, nI_add]
  rw [e, ix128, nI_clamp (show 992 + 64 * q + c < 2 ^ 31 by omega), nI_clamp (show 128 + c < 2 ^ 31 by omega)]
  refine ⟨vp_in_nI (by omega) (by omega), fun n => h0 (fun z => n z.2.1), fun n => ⟨vp_in_nI (by omega) (by omega), fun z => h0 (fun y => y.2.2 z), fun z => h1 ⟨hc, n, z⟩⟩⟩
end PW
theorem am_u_s (M : am_I) (a : am_C) (f : Nat → Int32) (k : Nat) (x : Int32) : am_u (am_s M a f) a k x = am_s M a (upd f k x) := by
  unfold am_u
  rw [am_s_s, am_s_same]
theorem am_ul_s (M : am_N) (a : am_C) (f : Nat → Int64) (k : Nat) (x : Int64) : am_ul (am_s M a f) a k x = am_s M a (vp_updL f k x) := by
  unfold am_ul
  rw [am_s_s, am_s_same]
theorem okM_s {M : am_I} {dn : Nat → Int32} {q c : Nat} : okM (am_s M (3, 0, 25) dn) q c ↔ okM M q c := by
  unfold okM hvI
  rw [am_s_other M dn (show (3, 0, 1) ≠ (3, 0, 25) by decide), am_s_other M dn (show (3, 0, 12) ≠ (3, 0, 25) by decide)]
theorem hvI_s {M : am_I} {dn : Nat → Int32} {q c : Nat} : hvI (am_s M (3, 0, 25) dn) q c = hvI M q c := by
  unfold hvI
  rw [am_s_other M dn (show (3, 0, 1) ≠ (3, 0, 25) by decide), am_s_other M dn (show (3, 0, 12) ≠ (3, 0, 25) by decide)]
/-- how many of the first n are not done -/
def cntN (dn : Nat → Int32) : Nat → Nat
  | 0 => 0
  | n + 1 => cntN dn n + (if dn n = 0 then 1 else 0)
theorem cntN_le (dn : Nat → Int32) : ∀ n, cntN dn n ≤ n
  | 0 => Nat.le_refl _
  | n + 1 => by
    have := cntN_le dn n
    unfold cntN
    split <;> omega
theorem cntN_out {dn : Nat → Int32} {p : Nat} {x : Int32} : ∀ {n : Nat}, n ≤ p → cntN (upd dn p x) n = cntN dn n
  | 0, _ => rfl
  | n + 1, h => by
    unfold cntN
    rw [cntN_out (by omega), pk_un (show n ≠ p by omega)]
theorem cntN_upd {dn : Nat → Int32} {p : Nat} (h0 : dn p = 0) : ∀ {n : Nat}, p < n → cntN (upd dn p 1) n + 1 = cntN dn n
  | 0, h => by omega
  | n + 1, h => by
    by_cases e : p = n
    · subst e
      unfold cntN
      rw [cntN_out (Nat.le_refl _), pk_us, if_neg (by decide), if_pos h0]
    · unfold cntN
      rw [← cntN_upd h0 (show p < n by omega), pk_un (show n ≠ p from fun z => e z.symm)]
      omega
def FARN : Nat := 1000000000000000
/-- the row 'away' holds the numbers aN where R, else FAR -/
def awR (R : Nat → Prop) (aN : Nat → Nat) (aw : Nat → Int64) : Prop := ∀ c, c < 64 → (R c → aw c = lN (aN c)) ∧ (¬ R c → aw c = lN FARN)
def dnR (Dn : Nat → Prop) (dn : Nat → Int32) : Prop := ∀ c, c < 64 → (Dn c → dn c = 1) ∧ (¬ Dn c → dn c = 0)
section PX
variable {M : am_I} {N : am_N} {post : am_I → am_N → Prop} {q goal : Nat} {bes : Int32}
theorem bjk_small {nb : Nat → Nat → Prop} {ok : Nat → Prop} {h : Nat → Nat} {G R Dn : Nat → Prop} {nd : Nat} {sd : Nat → Nat → Prop} {aN : Nat → Nat} (D : bjk nb ok h G nd R Dn sd aN) (hnd : nd ≤ 64) {c : Nat} (hc : R c) : aN c < 1000000000000 := by
  obtain ⟨k, C, g, -, -, e, h1, h2⟩ := D.2.2.1 c hc
  omega
/-- the four cells beside p are looked at -/
theorem mw_relax {zk : Int32 → am_I → am_N → Prop} (hB : wayB M q) {p nd : Nat} (hp64 : p < 64) (hop : okM M q p) {Dn : Nat → Prop} {dn : Nat → Int32} (hp : Dn p) (hnd : nd ≤ 64) :
    ∀ (j k : Nat), k + j = 4 → ∀ (R : Nat → Prop) (sd : Nat → Nat → Prop) (aN : Nat → Nat) (aw : Nat → Int64), bjk nbr (okM M q) (hN M q) (GoalN goal bes) nd R Dn sd aN → (∀ c, R c → c < 64) → awR R aN aw →
      (∀ x, Dn x → aN x ≤ aN p) → (∃ k C g, GoalN goal bes g ∧ wk nbr (okM M q) (hN M q) k p g C ∧ aN p = 1000000 * C + k ∧ k + 1 ≤ nd ∧ C ≤ 9999 * k) → (∀ i, i < k → ∀ c, besN p i = some c → sd p c) →
      (∀ (R' : Nat → Prop) (sd' : Nat → Nat → Prop) (aN' : Nat → Nat) (aw' : Nat → Int64), bjk nbr (okM M q) (hN M q) (GoalN goal bes) nd R' Dn sd' aN' → (∀ c, R' c → c < 64) → awR R' aN' aw' → (∀ x, Dn x → aN' x = aN x) → (∀ i, i < 4 → ∀ c, besN p i = some c → sd' p c) → (∀ a b, sd a b → sd' a b) → zk (nI q) (am_s M (3, 0, 25) dn) (am_s N (3, 0, 24) aw')) →
      ∃ n, w_X12_ways_p150 post zk n (nI q) (nI p) (nI k) (am_s M (3, 0, 25) dn) (am_s N (3, 0, 24) aw) := by
  intro j
  induction j with
  | zero =>
    intro k hk R sd aN aw D hR hA hmax hst hsd kk
    refine ⟨1, ?_⟩
    rw [w_X12_ways_p150_s]
    unfold w_X12_ways_p150_b
    have e : k = 4 := by omega
    subst e
    exact ⟨fun _ => kk R sd aN aw D hR hA (fun _ _ => rfl) hsd (fun _ _ h => h), fun z => absurd (Int32.le_refl _) z⟩
  | succ j ih =>
    intro k hk R sd aN aw D hR hA hmax hst hsd kk
    have hk4 : k < 4 := by omega
    have next : ∀ (R' : Nat → Prop) (sd' : Nat → Nat → Prop) (aN' : Nat → Nat) (aw' : Nat → Int64), bjk nbr (okM M q) (hN M q) (GoalN goal bes) nd R' Dn sd' aN' → (∀ c, R' c → c < 64) → awR R' aN' aw' → (∀ x, Dn x → aN' x = aN x) → (∀ i, i < k + 1 → ∀ c, besN p i = some c → sd' p c) → (∀ a b, sd a b → sd' a b) →
        ∃ n, w_X12_ways_p150 post zk n (nI q) (nI p) (nI (k + 1)) (am_s M (3, 0, 25) dn) (am_s N (3, 0, 24) aw') := by
      intro R' sd' aN' aw' D' hR' hA' hDn hsd' hsub
      refine ih (k + 1) (by omega) R' sd' aN' aw' D' hR' hA' (fun x hx => by rw [hDn x hx, hDn p hp]; exact hmax x hx) (by rw [hDn p hp]; exact hst) hsd' ?_
      intro R2 sd2 aN2 aw2 D2 hR2 hA2 hDn2 hsd2 hsub2
      exact kk R2 sd2 aN2 aw2 D2 hR2 hA2 (fun x hx => (hDn2 x hx).trans (hDn x hx)) hsd2 (fun a b h => hsub2 a b (hsub a b h))
    cases hb : besN p k with
    | none =>
      obtain ⟨n, hn⟩ := next R sd aN aw D hR hA (fun _ _ => rfl) (fun i hi c hc => by
        by_cases e : i = k
        · subst e; rw [hb] at hc; cases hc
        · exact hsd i (by omega) c hc) (fun _ _ h => h)
      refine ⟨n + 1, ?_⟩
      rw [w_X12_ways_p150_s]
      unfold w_X12_ways_p150_b
      refine ⟨fun z => absurd z (nI_ge (b := 4) hk4 (by omega)), fun _ => ?_⟩
      rw [eq_X12_besN hp64 hk4, besV_none hb]
      exact ⟨fun _ => by rw [nI_1]; exact hn, fun z => absurd rfl z⟩
    | some c =>
      have hc64 : c < 64 := besN_lt p hp64 k hk4 c hb
      have hnb : nbr p c := ⟨hp64, hc64, k, hk4, hb⟩
      obtain ⟨ehv, hhv, hle⟩ := hv_N hB hp64
      have hle := hle hop
      have hRp : R p := D.2.1 p hp
      have ap := (hA p hp64).1 hRp
      have sp := bjk_small D hnd hRp
      -- the new number
      have eval : aw p + 1000000 * (hvI M q p).toInt64 + 1 = lN (aN p + (1000000 * hN M q p + 1)) := by
        rw [ap, ehv, nI_l (by omega), show (1000000 : Int64) * lN (hN M q p) = lN (1000000 * hN M q p) from lN_mul _ _, lN_add, lN_1, Nat.add_assoc]
      have emin : ∃ v : Nat, (if aw p + 1000000 * (hvI M q p).toInt64 + 1 < aw c then aw p + 1000000 * (hvI M q p).toInt64 + 1 else aw c) = lN v ∧ (R c → v = min (aN c) (aN p + (1000000 * hN M q p + 1))) ∧ (¬ R c → v = aN p + (1000000 * hN M q p + 1)) := by
        rw [eval]
        by_cases hRc : R c
        · rw [(hA c hc64).1 hRc]
          have sc := bjk_small D hnd hRc
          by_cases hlt : aN p + (1000000 * hN M q p + 1) < aN c
          · rw [if_pos ((pk_lLT (by omega) (by omega)).mpr hlt)]
            exact ⟨_, rfl, fun _ => (Nat.min_eq_right (by omega)).symm, fun z => absurd hRc z⟩
          · rw [if_neg (fun z => hlt ((pk_lLT (by omega) (by omega)).mp z))]
            exact ⟨_, rfl, fun _ => (Nat.min_eq_left (by omega)).symm, fun z => absurd hRc z⟩
        · rw [(hA c hc64).2 hRc]
          rw [if_pos ((pk_lLT (by omega) (by unfold FARN; omega)).mpr (by unfold FARN; omega))]
          exact ⟨_, rfl, fun z => absurd z hRc, fun _ => rfl⟩
      obtain ⟨v, ev, hv0, hv1⟩ := emin
      have D' := bjk_relax (aw' := fun x => if x = c then v else aN x) nbr_sym D hp hmax hnb hop hle hst (fun hR => by simp [hv0 hR]) (fun hR => by simp [hv1 hR]) (fun x hx => by simp [hx])
      have hDn : ∀ x, Dn x → (fun x => if x = c then v else aN x) x = aN x := by
        intro x hx
        by_cases e : x = c
        · subst e
          have hRx := D.2.1 x hx
          have := hmax x hx
          simp only [if_pos]
          rw [hv0 hRx]
          exact Nat.min_eq_left (by omega)
        · simp [e]
      obtain ⟨n, hn⟩ := next _ _ _ (vp_updL aw c (lN v)) D' (fun x hx => hx.elim (hR x) (fun e => e ▸ hc64)) (fun x hx => by
          by_cases e : x = c
          · subst e
            refine ⟨fun _ => ?_, fun z => absurd (Or.inr rfl) z⟩
            rw [pk_uLs]; simp
          · rw [pk_uLn e]
            simp only [if_neg e]
            exact ⟨fun z => (hA x hx).1 (z.elim id (fun y => absurd y e)), fun z => (hA x hx).2 (fun y => z (Or.inl y))⟩) hDn (fun i hi c' hc' => by
          by_cases e : i = k
          · subst e; rw [hb] at hc'; cases hc'; exact Or.inr ⟨rfl, rfl⟩
          · exact Or.inl (hsd i (by omega) c' hc')) (fun _ _ h => Or.inl h)
      refine ⟨n + 1, ?_⟩
      rw [w_X12_ways_p150_s]
      unfold w_X12_ways_p150_b
      refine ⟨fun z => absurd z (nI_ge (b := 4) hk4 (by omega)), fun _ => ?_⟩
      simp only [eq_X12_besN hp64 hk4, besV_some hb, eq_X12_heavy hB.1 hp64, eq_J9_minl, hvI_s, am_s_same, nI_clamp (show c < 2 ^ 31 by omega), nI_clamp (show p < 2 ^ 31 by omega)]
      refine ⟨fun z => absurd z (nI_ne_m1 (by omega)), fun _ => ⟨vp_in_nI hc64 (by omega), vp_in_nI hp64 (by omega), vp_in_nI hc64 (by omega), ?_⟩⟩
      rw [ev, am_ul_s, nI_1]
      exact hn
end PX
