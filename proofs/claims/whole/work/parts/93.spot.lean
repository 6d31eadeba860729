/-! ===== the reference's spreading; spot ===== -/
/-- the step written at a cell, when p rounds are through -/
def LVd (T S : Nat → Prop) (p d : Nat) (x : Int32) : Prop := (¬ Rch T S p d → x = -1) ∧ (Rch T S p d → ∃ m, m ≤ p ∧ x = nI m ∧ Rch T S m d ∧ ∀ m', m' < m → ¬ Rch T S m' d)
section SP
variable {T S : Nat → Prop} {M M1 : am_I} {N N1 : am_N} {bk : Bk} {cn : Cn} {but : Nat → Nat → Prop} {f : Nat → Int32} {fe lo : Int64} {W p c : Nat} {st : Nat → Int32} {post : am_I → am_N → Prop} {postI : Int32 → am_I → am_N → Prop}
theorem LVd.keep (hS : ∀ c, S c → T c) {d : Nat} {x : Int32} (h : LVd T S p d x) (hR : Rch T S p d) : LVd T S (p + 1) d x := by
  refine ⟨fun z => absurd (Rch_up hS p d hR) z, fun _ => ?_⟩
  obtain ⟨m, h1, h2⟩ := h.2 hR
  exact ⟨m, by omega, h2⟩
theorem LVd.ne (hp : p ≤ 64) {d : Nat} {x : Int32} (h : LVd T S p d x) : (x = -1 ↔ ¬ Rch T S p d) := by
  constructor
  · intro e hR
    obtain ⟨m, h1, h2, -⟩ := h.2 hR
    rw [h2] at e
    exact nI_ne_m1 (by omega) e
  · exact h.1
/-- a cell that was not reached: is one beside it written in the last round? -/
theorem near_iff (hS : ∀ c, S c → T c) (hp : p < 64) (hc : c < 64) (hn : ¬ Rch T S p c) (hT : T c) (hL : ∀ d, d < 64 → d ≠ c → LVd T S p d (st d) ∨ (LVd T S (p + 1) d (st d))) : (∃ k b, k < 4 ∧ besN c k = some b ∧ st b = nI p) ↔ Rch T S (p + 1) c := by
  have bne : ∀ k b, k < 4 → besN c k = some b → b < 64 ∧ b ≠ c := fun k b hk hb => by
    refine ⟨besN_lt c hc k hk b hb, fun e => ?_⟩
    subst e
    rcases besN_val hb with h | h | h | h <;> omega
  constructor
  · rintro ⟨k, b, hk, hb, hs⟩
    obtain ⟨hb64, hbc⟩ := bne k b hk hb
    refine ⟨hT, Or.inr ⟨k, b, hk, hb, ?_⟩⟩
    rcases hL b hb64 hbc with h | h
    · exact Classical.byContradiction fun z => nI_ne_m1 (c := p) (by omega) (by rw [← hs]; exact h.1 z)
    · by_cases z : Rch T S (p + 1) b
      · obtain ⟨m, h1, h2, h3, -⟩ := h.2 z
        have : p = m := (nI_eq (by omega) (by omega)).mp (hs.symm.trans h2)
        subst this
        exact h3
      · exact absurd (by rw [← hs]; exact h.1 z) (nI_ne_m1 (c := p) (by omega))
  · rintro ⟨-, h | ⟨k, b, hk, hb, hR⟩⟩
    · exact absurd h hn
    · obtain ⟨hb64, hbc⟩ := bne k b hk hb
      refine ⟨k, b, hk, hb, ?_⟩
      have fin : ∀ m, m ≤ p + 1 → st b = nI m → Rch T S m b → (∀ m', m' < m → ¬ Rch T S m' b) → st b = nI p := by
        intro m h1 h2 h3 h4
        by_cases e : m = p
        · rw [h2, e]
        · by_cases e2 : m = p + 1
          · exact absurd hR (h4 p (by omega))
          · exfalso
            have : Rch T S (m + 1) c := ⟨hT, Or.inr ⟨k, b, hk, hb, h3⟩⟩
            have h5 := Rch_le hS this (p - (m + 1))
            rw [show m + 1 + (p - (m + 1)) = p by omega] at h5
            exact hn h5
      rcases hL b hb64 hbc with h | h
      · obtain ⟨m, h1, h2, h3, h4⟩ := h.2 hR
        exact fin m (by omega) h2 h3 h4
      · obtain ⟨m, h1, h2, h3, h4⟩ := h.2 (Rch_up hS p b hR)
        exact fin m h1 h2 h3 h4
theorem r_spreads {gn : Nat → Int32} {d : Nat} (hd : d ≤ 64) (hS : ∀ c, S c → T c) (ef : M (3, 0, 1) = f) (eg : M (3, 0, 30) = gn) (hT : ∀ c, c < 64 → ¬ S c → (T c ↔ ¬ f (192 + c) = 0 ∧ gn c = 0)) (h0 : ∀ c, c < 64 → LVd T S 0 c (M (3, 0, 29) c)) (h : ∀ st, (∀ c, c < 64 → LVd T S d c (st c)) → post (am_s M (3, 0, 29) st) N) : w_X12_spreads (nI d) M N post := by
  have e1 : ∀ st : Nat → Int32, am_s M (3, 0, 29) st (3, 0, 1) = f := fun st => by rw [am_s_other _ _ (by simp)]; exact ef
  have e30 : ∀ st : Nat → Int32, am_s M (3, 0, 29) st (3, 0, 30) = gn := fun st => by rw [am_s_other _ _ (by simp)]; exact eg
  -- the sides of a cell
  have sides : ∀ (p c : Nat), p < 64 → c < 64 → ∀ st : Nat → Int32, ∀ (zk2 : Int32 → Int32 → am_I → am_N → Prop) (zk10 : Int32 → Int32 → Int32 → am_I → am_N → Prop), zk10 (nI d) (nI (p + 1)) (nI (c + 1)) (am_s M (3, 0, 29) (pick (∃ k b, k < 4 ∧ besN c k = some b ∧ st b = nI p) (upd st c (nI (p + 1))) st)) N → ∀ (j k : Nat), k + j = 4 → w_X12_spreads_p55 post zk2 zk10 (j + 1) (nI d) (nI (p + 1)) (nI c) (nI k) (am_s M (3, 0, 29) (pick (∃ k' b, k' < k ∧ besN c k' = some b ∧ st b = nI p) (upd st c (nI (p + 1))) st)) N := by
    intro p c hp hc st zk2 zk10 hz j
    induction j with
    | zero =>
      intro k hk
      have hk' : k = 4 := by omega
      subst hk'
      rw [w_X12_spreads_p55_s]
      unfold w_X12_spreads_p55_b
      rw [nI_1]
      exact ⟨fun _ => hz, fun z => absurd (nI_le (a := 4) (b := 4) (by omega) (by omega)) z⟩
    | succ j ih =>
      intro k hk
      have ih' := ih (k + 1) (by omega)
      rw [w_X12_spreads_p55_s]
      unfold w_X12_spreads_p55_b
      rw [nI_1, nI_1, nI_pred]
      refine ⟨fun z => absurd z (nI_ge (b := 4) (by omega) (by omega)), fun _ => (eq_X12_besN hc (by omega)).mpr ?_⟩
      have ext : (¬ ∃ b, besN c k = some b ∧ st b = nI p) → pick (∃ k' b, k' < k + 1 ∧ besN c k' = some b ∧ st b = nI p) (upd st c (nI (p + 1))) st = pick (∃ k' b, k' < k ∧ besN c k' = some b ∧ st b = nI p) (upd st c (nI (p + 1))) st := by
        intro hno
        by_cases e : ∃ k' b, k' < k ∧ besN c k' = some b ∧ st b = nI p
        · obtain ⟨k', b, q1, q2⟩ := e
          rw [pick_t ⟨k', b, by omega, q2⟩, pick_t ⟨k', b, q1, q2⟩]
        · rw [pick_f e, pick_f]
          rintro ⟨k', b, q1, q2, q3⟩
          by_cases ek : k' = k
          · subst ek; exact hno ⟨b, q2, q3⟩
          · exact e ⟨k', b, by omega, q2, q3⟩
      cases hb : besN c k with
      | none =>
        rw [besV_none hb]
        rw [ext (fun ⟨b, q, _⟩ => by rw [hb] at q; cases q)] at ih'
        exact ⟨fun _ => ih', fun z => absurd rfl z⟩
      | some b =>
        have hb64 := besN_lt c hc k (by omega) b hb
        have hbc : b ≠ c := fun e => by
          subst e
          rcases besN_val hb with h | h | h | h <;> omega
        rw [besV_some hb]
        refine ⟨fun z => absurd z (nI_ne_m1 (by omega)), fun _ => (eq_X12_besN hc (by omega)).mpr ?_⟩
        rw [besV_some hb, nI_clamp (show b < 2 ^ 31 by omega), nI_clamp (show c < 2 ^ 31 by omega), am_s_same, am_u_s]
        have eb : pick (∃ k' b, k' < k ∧ besN c k' = some b ∧ st b = nI p) (upd st c (nI (p + 1))) st b = st b := by
          by_cases e : ∃ k' b, k' < k ∧ besN c k' = some b ∧ st b = nI p
          · rw [pick_t e, pk_un hbc]
          · rw [pick_f e]
        rw [eb]
        refine ⟨vp_in_nI hb64 (by omega), fun z => ?_, fun z => ⟨vp_in_nI hc (by omega), ?_⟩⟩
        · rw [ext (fun ⟨b', q, q2⟩ => by
            rw [hb] at q
            simp only [Option.some.injEq] at q
            subst q
            exact z q2)] at ih'
          exact ih'
        · rw [pick_t ⟨k, b, by omega, hb, z⟩] at ih'
          have eu : upd (pick (∃ k' b, k' < k ∧ besN c k' = some b ∧ st b = nI p) (upd st c (nI (p + 1))) st) c (nI (p + 1)) = upd st c (nI (p + 1)) := by
            by_cases e : ∃ k' b, k' < k ∧ besN c k' = some b ∧ st b = nI p
            · rw [pick_t e]
              funext i
              by_cases ei : i = c
              · subst ei; rw [pk_us, pk_us]
              · rw [pk_un ei]
            · rw [pick_f e]
          rw [eu]
          exact ih'
  -- the cells of a round
  have cells : ∀ (p : Nat), p < d → ∀ zk2 : Int32 → Int32 → am_I → am_N → Prop, (∀ st, (∀ c, c < 64 → LVd T S (p + 1) c (st c)) → zk2 (nI d) (nI (p + 2)) (am_s M (3, 0, 29) st) N) → ∀ (j c : Nat), c + j = 64 → ∀ st : Nat → Int32, (∀ i, i < 64 → (i < c → LVd T S (p + 1) i (st i)) ∧ (c ≤ i → LVd T S p i (st i))) → w_X12_spreads_p10 post zk2 (j + 1) (nI d) (nI (p + 1)) (nI c) (am_s M (3, 0, 29) st) N := by
    intro p hp zk2 hz j
    induction j with
    | zero =>
      intro c hc st hst
      have hc' : c = 64 := by omega
      subst hc'
      rw [w_X12_spreads_p10_s]
      unfold w_X12_spreads_p10_b
      rw [nI_1]
      exact ⟨fun _ => hz st (fun i hi => (hst i hi).1 hi), fun z => absurd (nI_le (a := 64) (b := 64) (by omega) (by omega)) z⟩
    | succ j ih =>
      intro c hc st hst
      have hc64 : c < 64 := by omega
      have hp64 : p < 64 := by omega
      have ih' := ih (c + 1) (by omega)
      have hLc := (hst c hc64).2 (Nat.le_refl _)
      have i1 : (192 + nI c).toNatClampNeg = 192 + c := by rw [ix192, nI_clamp (by omega)]
      have v1 : vp_in (192 + nI c) 1635 := by rw [ix192]; exact vp_in_nI (by omega) (by omega)
      have vc : vp_in (nI c) 64 := vp_in_nI hc64 (by omega)
      have next : ∀ x, LVd T S (p + 1) c x → ∀ i, i < 64 → (i < c + 1 → LVd T S (p + 1) i (upd st c x i)) ∧ (c + 1 ≤ i → LVd T S p i (upd st c x i)) := by
        intro x hx i hi
        refine ⟨fun h1 => ?_, fun h1 => ?_⟩
        · by_cases e : i = c
          · subst e; rw [pk_us]; exact hx
          · rw [pk_un e]; exact (hst i hi).1 (by omega)
        · rw [pk_un (by omega)]; exact (hst i hi).2 (by omega)
      have skip : LVd T S (p + 1) c (st c) → w_X12_spreads_p10 post zk2 (j + 1) (nI d) (nI (p + 1)) (nI (c + 1)) (am_s M (3, 0, 29) st) N := by
        intro hx
        have := ih' _ (next _ hx)
        rw [upd_id rfl] at this
        exact this
      rw [w_X12_spreads_p10_s]
      unfold w_X12_spreads_p10_b
      rw [i1, nI_clamp (show c < 2 ^ 31 by omega), am_s_same, e1, e30, nI_1, nI_1]
      have nS : st c = -1 → ¬ S c := fun z y => ((hLc.ne (Nat.le_of_lt hp64)).mp z) (by
        have := Rch_le (n := 0) hS y p
        rw [Nat.zero_add] at this
        exact this)
      refine ⟨fun z => absurd z (nI_ge (b := 64) (by omega) (by omega)), fun _ => ⟨vc, fun z => skip ?_, fun z => ⟨v1, fun z2 => skip ?_, fun z2 => ⟨vc, fun z3 => ?_, fun z3 => skip ?_⟩⟩⟩⟩
      · exact hLc.keep hS (Classical.byContradiction fun y => z ((hLc.ne (Nat.le_of_lt hp64)).mpr y))
      · refine ⟨fun _ => z, fun y => absurd z2 ((hT c hc64 (nS z)).mp y.1).1⟩
      · have hn := (hLc.ne (Nat.le_of_lt hp64)).mp z
        have hTc : T c := (hT c hc64 (nS z)).mpr ⟨z2, z3⟩
        have hnear := near_iff (st := st) hS hp64 hc64 hn hTc (fun i hi hne => by
          by_cases e : i < c
          · exact Or.inr ((hst i hi).1 e)
          · exact Or.inl ((hst i hi).2 (by omega)))
        have s0 := sides p c hp64 hc64 st zk2 (w_X12_spreads_p10 post zk2 (j + 1)) (by
          by_cases e : ∃ k b, k < 4 ∧ besN c k = some b ∧ st b = nI p
          · rw [pick_t e]
            refine ih' _ (next _ ⟨fun y => absurd (hnear.mp e) y, fun y => ⟨p + 1, Nat.le_refl _, rfl, y, fun m' hm' y2 => hn ?_⟩⟩)
            have := Rch_le hS y2 (p - m')
            rw [show m' + (p - m') = p by omega] at this
            exact this
          · rw [pick_f e]
            exact skip ⟨fun _ => z, fun y => absurd (hnear.mpr y) e⟩) 4 0 (by omega)
        rw [pick_f (fun ⟨k', b, q, _⟩ => by omega)] at s0
        exact ⟨5, s0⟩
      · exact ⟨fun _ => z, fun y => absurd ((hT c hc64 (nS z)).mp y.1).2 z3⟩
  unfold w_X12_spreads
  refine ⟨d + 1, ?_⟩
  have rounds : ∀ (j p : Nat), p + j = d → ∀ st : Nat → Int32, (∀ c, c < 64 → LVd T S p c (st c)) → w_X12_spreads_p2 post (j + 1) (nI d) (nI (p + 1)) (am_s M (3, 0, 29) st) N := by
    intro j
    induction j with
    | zero =>
      intro p hp st hst
      have hp' : p = d := by omega
      subst hp'
      rw [w_X12_spreads_p2_s]
      unfold w_X12_spreads_p2_b
      exact ⟨fun _ => h st hst, fun z => absurd (nI_lt (by omega) (by omega)) z⟩
    | succ j ih =>
      intro p hp st hst
      rw [w_X12_spreads_p2_s]
      unfold w_X12_spreads_p2_b
      refine ⟨fun z => absurd z (nI_nlt (by omega) (by omega)), fun _ => ⟨65, cells p (by omega) _ (fun st2 h2 => ih (p + 1) (by omega) st2 h2) 64 0 (by omega) st (fun i hi => ⟨fun z => absurd z (Nat.not_lt_zero _), fun _ => hst i hi⟩)⟩⟩
  have r0 := rounds d 0 (by omega) (M (3, 0, 29)) h0
  rw [am_s_id] at r0
  exact r0
end SP
