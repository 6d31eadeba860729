/-! ===== flow ===== -/
/-- the lowest beside c among the first k sides (of several the first) -/
def lowM (hgt : Nat → Int32) (c : Nat) : Nat → Option Nat
  | 0 => none
  | k + 1 => match besN c k, lowM hgt c k with
    | none, r => r
    | some x, none => some x
    | some x, some l => if hgt x < hgt l then some x else some l
def lowC (hgt : Nat → Int32) (c : Nat) : Nat → Nat
  | 0 => c
  | k + 1 => match besN c k with
    | none => lowC hgt c k
    | some x => if hgt x < hgt (lowC hgt c k) then x else lowC hgt c k
def lowS (hgt : Nat → Int32) (c : Nat) (r : Option Nat) : Nat := match r with
  | none => c
  | some l => if hgt l < hgt c then l else c
theorem lowC_M (hgt : Nat → Int32) (c : Nat) : ∀ k, lowC hgt c k = lowS hgt c (lowM hgt c k)
  | 0 => rfl
  | k + 1 => by
    have ih := lowC_M hgt c k
    unfold lowC lowM
    rw [ih]
    cases hb : besN c k with
    | none => rfl
    | some x =>
      cases hl : lowM hgt c k with
      | none => rfl
      | some l =>
        dsimp only
        unfold lowS
        dsimp only
        by_cases h1 : hgt l < hgt c <;> by_cases h2 : hgt x < hgt l <;> by_cases h3 : hgt x < hgt c <;> simp only [h1, h2, h3, if_true, if_false] <;>
          (exfalso; rw [Int32.lt_iff_toInt_lt] at h1 h2 h3; omega)
theorem lowM_lt (hgt : Nat → Int32) {c : Nat} (hc : c < 64) : ∀ {k l}, k ≤ 4 → lowM hgt c k = some l → l < 64
  | 0, l, _, h => by cases h
  | k + 1, l, hk, h => by
    unfold lowM at h
    cases hb : besN c k with
    | none =>
      rw [hb] at h
      exact lowM_lt hgt hc (by omega) h
    | some x =>
      have hx := besN_lt c hc k (by omega) x hb
      rw [hb] at h
      cases hl : lowM hgt c k with
      | none => rw [hl] at h; cases h; exact hx
      | some y =>
        have hy := lowM_lt hgt hc (by omega) hl
        rw [hl] at h
        dsimp only at h
        split at h <;> cases h
        · exact hx
        · exact hy
theorem lowM_some (hgt : Nat → Int32) {c : Nat} (hc : c < 64) : ∃ l, lowM hgt c 4 = some l := by
  have step : ∀ k, (∃ l, lowM hgt c k = some l) → ∃ l, lowM hgt c (k + 1) = some l := by
    rintro k ⟨l, hl⟩
    unfold lowM
    rw [hl]
    cases besN c k with
    | none => exact ⟨l, rfl⟩
    | some x => dsimp only; split <;> exact ⟨_, rfl⟩
  have put : ∀ k x, besN c k = some x → ∃ l, lowM hgt c (k + 1) = some l := by
    intro k x hx
    unfold lowM
    rw [hx]
    cases lowM hgt c k with
    | none => exact ⟨x, rfl⟩
    | some l => dsimp only; split <;> exact ⟨_, rfl⟩
  by_cases h : c < 8
  · have : besN c 3 = some (c + 8) := by
      show (if 56 ≤ c then none else some (c + 8)) = _
      rw [if_neg (by omega)]
    exact put 3 _ this
  · have : besN c 0 = some (c - 8) := by
      show (if c < 8 then none else some (c - 8)) = _
      rw [if_neg h]
    exact step 3 (step 2 (step 1 (put 0 _ this)))
/-- what a cell gives, and to which -/
def flowC (hgt wet : Nat → Int32) : Nat → Nat → Int32
  | 0 => fun _ => 0
  | c + 1 =>
    if wet c ≤ 100 then flowC hgt wet c
    else if hgt (lowC hgt c 4) < hgt c then upd (upd (flowC hgt wet c) c (flowC hgt wet c c - (wet c - 100) / 2)) (lowC hgt c 4) (upd (flowC hgt wet c) c (flowC hgt wet c c - (wet c - 100) / 2) (lowC hgt c 4) + (wet c - 100) / 2)
    else flowC hgt wet c
def addW (w ch : Nat → Int32) (n : Nat) : Nat → Int32 := fun i => if i < n then w i + ch i else w i
theorem addW_at (w ch : Nat → Int32) (n : Nat) : addW w ch n n = w n := by simp [addW]
theorem addW_s (w ch : Nat → Int32) (n : Nat) : addW w ch (n + 1) = upd (addW w ch n) n (w n + ch n) := by
  funext i
  unfold addW upd
  by_cases h1 : i < n
  · simp [h1, show i < n + 1 by omega, show i ≠ n by omega]
  · by_cases h2 : i = n
    · subst h2; simp
    · simp [h1, h2, show ¬ i < n + 1 by omega]
theorem addW_0 (w ch : Nat → Int32) : addW w ch 0 = w := by funext i; simp [addW]
theorem lowC_lt (hgt : Nat → Int32) {c : Nat} (hc : c < 64) : lowC hgt c 4 < 64 := by
  rw [lowC_M]
  obtain ⟨l, hl⟩ := lowM_some hgt hc
  have := lowM_lt hgt hc (Nat.le_refl 4) hl
  rw [hl]
  unfold lowS
  dsimp only
  split <;> omega
section FL
variable {M : am_I} {N : am_N} {post : am_I → am_N → Prop} {postI : Int32 → am_I → am_N → Prop} {b : Nat}
theorem i32_nle {x y : Int32} : (¬ x ≤ y) ↔ y < x := Int32.not_le
theorem sp_X2_lowest {c : Nat} (hc : c < 64) (h : postI (nI (lowC (M (1, b, 2)) c 4)) M N) : w_X2_lowestBeside b (nI c) M N postI := by
  unfold w_X2_lowestBeside
  have hlt : ∀ k, k ≤ 4 → lowC (M (1, b, 2)) c k < 64 := by
    intro k
    induction k with
    | zero => intro _; exact hc
    | succ k ih =>
      intro hk
      unfold lowC
      cases hb : besN c k with
      | none => exact ih (by omega)
      | some x =>
        dsimp only
        split
        · exact besN_lt c hc k (by omega) x hb
        · exact ih (by omega)
  have key : ∀ (j k : Nat), k + j = 4 → w_X2_lowestBeside_p4 b postI (j + 1) (nI c) (nI (lowC (M (1, b, 2)) c k)) (nI k) M N := by
    intro j
    induction j with
    | zero =>
      intro k hk
      have e : k = 4 := by omega
      subst e
      rw [w_X2_lowestBeside_p4_s]
      unfold w_X2_lowestBeside_p4_b
      exact ⟨fun _ => h, fun z => absurd (Int32.le_refl _) z⟩
    | succ j ih =>
      intro k hk
      have hk4 : k < 4 := by omega
      have hn := ih (k + 1) (by omega)
      rw [w_X2_lowestBeside_p4_s]
      unfold w_X2_lowestBeside_p4_b
      have hl := hlt k (by omega)
      refine ⟨fun z => absurd z (nI_ge (b := 4) hk4 (by omega)), fun _ => ?_⟩
      rw [eq_X11_besN hc hk4, nI_1]
      unfold lowC at hn
      cases hb : besN c k with
      | none =>
        rw [hb] at hn
        rw [besV_none hb]
        exact ⟨fun _ => hn, fun z => absurd (by decide) z⟩
      | some x =>
        have hx := besN_lt c hc k hk4 x hb
        rw [hb] at hn
        dsimp only at hn
        rw [besV_some hb, nI_clamp (show x < 2 ^ 31 by omega), nI_clamp (show lowC (M (1, b, 2)) c k < 2 ^ 31 by omega)]
        refine ⟨fun z => absurd z (nI_pos (by omega)), fun _ => ⟨vp_in_nI hx (by omega), vp_in_nI hl (by omega), fun z => ?_, fun z => ?_⟩⟩
        · rw [if_neg (fun y => absurd z (i32_nle.mpr y))] at hn
          exact hn
        · rw [if_pos (i32_nle.mp z)] at hn
          exact hn
  exact ⟨5, key 4 0 (by omega)⟩
theorem sp_X2_flow (h : ∀ ch : Nat → Int32, post (am_s (am_s M (1, b, 5) ch) (1, b, 3) (addW (M (1, b, 3)) (flowC (M (1, b, 2)) (M (1, b, 3)) 64) 64)) N) : w_X2_flow b M N post := by
  unfold w_X2_flow
  generalize hH : M (1, b, 2) = hgt at h
  generalize hW : M (1, b, 3) = wet at h
  have e0 : am_fill M (1, b, 5) 64 0 = am_s M (1, b, 5) (fun i => if i < 64 then flowC hgt wet 0 i else M (1, b, 5) i) := rfl
  -- the first 64 places of the row 'change' hold flowC
  have mem : ∀ ch : Nat → Int32, am_s M (1, b, 5) ch (1, b, 2) = hgt ∧ am_s M (1, b, 5) ch (1, b, 3) = wet := fun ch => ⟨by rw [am_s_other _ _ (by simp)]; exact hH, by rw [am_s_other _ _ (by simp)]; exact hW⟩
  have loop2 : ∀ ch : Nat → Int32, (∀ i, i < 64 → ch i = flowC hgt wet 64 i) → w_X2_flow_p92 b post 65 0 (am_s M (1, b, 5) ch) N := by
    intro ch hch
    have fl : ∀ c, c ≤ 64 → foldS (fun c (s : am_I) => am_u s (1, b, 3) c (wet c + flowC hgt wet 64 c)) c (am_s M (1, b, 5) ch) = am_s (am_s M (1, b, 5) ch) (1, b, 3) (addW wet (flowC hgt wet 64) c) := by
      intro c
      induction c with
      | zero =>
        intro _
        show am_s M (1, b, 5) ch = _
        rw [addW_0]
        have := am_s_id (am_s M (1, b, 5) ch) (1, b, 3)
        rw [(mem ch).2] at this
        exact this.symm
      | succ c ih =>
        intro hc
        show am_u (foldS _ c _) (1, b, 3) c _ = _
        rw [ih (by omega), am_u_s, addW_s]
    refine loopN 64 (fun n i (s : am_I) => w_X2_flow_p92 b post n i s N) (fun c s => am_u s (1, b, 3) c (wet c + flowC hgt wet 64 c)) (am_s M (1, b, 5) ch) (fun m c hc hn => ?_) ?_
    · rw [fl c (by omega)] at hn ⊢
      rw [w_X2_flow_p92_s]
      unfold w_X2_flow_p92_b
      rw [nI_clamp (show c < 2 ^ 31 by omega), am_s_same, addW_at, nI_1, am_s_other _ _ (show (1, b, 5) ≠ (1, b, 3) by simp), am_s_same, hch c hc]
      have v : vp_in (nI c) 64 := vp_in_nI hc (by omega)
      exact ⟨fun z => absurd z (nI_ge (b := 64) hc (by omega)), fun _ => ⟨v, v, v, hn⟩⟩
    · rw [fl 64 (Nat.le_refl _)]
      rw [w_X2_flow_p92_s]
      unfold w_X2_flow_p92_b
      exact ⟨fun _ => h ch, fun z => absurd (Int32.le_refl _) z⟩
  have key : ∀ (j c : Nat), c + j = 64 → ∀ ch : Nat → Int32, (∀ i, i < 64 → ch i = flowC hgt wet c i) → w_X2_flow_p10 b post (j + 1) (nI c) (am_s M (1, b, 5) ch) N := by
    intro j
    induction j with
    | zero =>
      intro c hc ch hch
      have e : c = 64 := by omega
      subst e
      rw [w_X2_flow_p10_s]
      unfold w_X2_flow_p10_b
      exact ⟨fun _ => ⟨65, loop2 ch hch⟩, fun z => absurd (Int32.le_refl _) z⟩
    | succ j ih =>
      intro c hc ch hch
      have hc64 : c < 64 := by omega
      have hl := lowC_lt hgt hc64
      rw [w_X2_flow_p10_s]
      unfold w_X2_flow_p10_b w_X2_flow_p36
      have v : vp_in (nI c) 64 := vp_in_nI hc64 (by omega)
      have vl : vp_in (nI (lowC hgt c 4)) 64 := vp_in_nI hl (by omega)
      rw [nI_clamp (show c < 2 ^ 31 by omega), (mem ch).1, (mem ch).2, nI_1]
      refine ⟨fun z => absurd z (nI_ge (b := 64) hc64 (by omega)), fun _ => ⟨v, fun z => ⟨v, v, fun _ => ?_, fun y => absurd (Int32.le_refl _) y⟩, fun z => ?_⟩⟩
      · refine ih (c + 1) (by omega) ch (fun i hi => ?_)
        rw [hch i hi]
        show _ = (if wet c ≤ 100 then flowC hgt wet c else _) i
        rw [if_pos z]
      · have hlow : lowC (am_s M (1, b, 5) ch (1, b, 2)) c 4 = lowC hgt c 4 := by rw [(mem ch).1]
        refine sp_X2_lowest hc64 ?_
        rw [hlow, nI_clamp (show lowC hgt c 4 < 2 ^ 31 by omega), (mem ch).1, (mem ch).2]
        refine ⟨vl, v, fun y => ?_, fun y => ⟨v, fun u hu => ⟨v, v, vl, vl, ?_⟩⟩⟩
        · refine ih (c + 1) (by omega) ch (fun i hi => ?_)
          rw [hch i hi]
          show _ = (if wet c ≤ 100 then flowC hgt wet c else if hgt (lowC hgt c 4) < hgt c then _ else flowC hgt wet c) i
          rw [if_neg z, if_neg (fun x => absurd y (i32_nle.mpr x))]
        · subst hu
          rw [am_s_same, am_u_s, am_s_same, am_u_s]
          refine ih (c + 1) (by omega) _ (fun i hi => ?_)
          show _ = (if wet c ≤ 100 then flowC hgt wet c else if hgt (lowC hgt c 4) < hgt c then upd (upd (flowC hgt wet c) c (flowC hgt wet c c - (wet c - 100) / 2)) (lowC hgt c 4) (upd (flowC hgt wet c) c (flowC hgt wet c c - (wet c - 100) / 2) (lowC hgt c 4) + (wet c - 100) / 2) else flowC hgt wet c) i
          rw [if_neg z, if_pos (i32_nle.mp y)]
          unfold upd
          by_cases e1 : i = lowC hgt c 4
          · subst e1
            by_cases e2 : lowC hgt c 4 = c
            · simp [e2, hch c hc64]
            · simp [e2, hch _ hl]
          · by_cases e2 : i = c
            · subst e2; simp [e1, hch _ hc64]
            · simp [e1, e2, hch i hi]
  refine ⟨65, ?_⟩
  rw [e0]
  exact key 64 0 (by omega) _ (fun i hi => by simp [hi])
end FL
