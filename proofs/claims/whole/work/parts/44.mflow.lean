/-! ===== flow of the reference ===== -/
section FM
variable {M : am_I} {N : am_N} {post : am_I → am_N → Prop}
theorem z_add (x : Int32) : (0 : Int32) + x = x := Int32.zero_add x
theorem atV_some {r : Option Nat} {l : Nat} (h : r = some l) : atV r = nI l := by rw [h]; rfl
theorem sp_X12_flows (h : ∀ ch : Nat → Int32, post (am_s (am_s M (3, 0, 26) ch) (3, 0, 1) (setW (M (3, 0, 1)) (addW (getW (M (3, 0, 1))) (flowC (M (3, 0, 1)) (getW (M (3, 0, 1))) 64) 64))) N) : w_X12_flows M N post := by
  unfold w_X12_flows
  generalize hF : M (3, 0, 1) = f at h
  generalize hW : getW f = wet at h
  have mem : ∀ ch : Nat → Int32, am_s M (3, 0, 26) ch (3, 0, 1) = f := fun ch => by rw [am_s_other _ _ (by decide)]; exact hF
  have wat : ∀ c, f (64 + c) = wet c := fun c => by rw [← hW]; rfl
  have loop3 : ∀ ch : Nat → Int32, (∀ i, i < 64 → ch i = flowC f wet 64 i) → w_X12_flows_p169 post 65 0 (am_s M (3, 0, 26) ch) N := by
    intro ch hch
    have fl : ∀ c, c ≤ 64 → foldS (fun c (s : am_I) => am_u s (3, 0, 1) (64 + c) (wet c + flowC f wet 64 c)) c (am_s M (3, 0, 26) ch) = am_s (am_s M (3, 0, 26) ch) (3, 0, 1) (setW f (addW wet (flowC f wet 64) c)) := by
      intro c
      induction c with
      | zero =>
        intro _
        show am_s M (3, 0, 26) ch = _
        rw [addW_0, ← hW, setW_id]
        have := am_s_id (am_s M (3, 0, 26) ch) (3, 0, 1)
        rw [mem ch] at this
        exact this.symm
      | succ c ih =>
        intro hc
        show am_u (foldS _ c _) (3, 0, 1) (64 + c) _ = _
        rw [ih (by omega), am_u_s, setW_upd (by omega), addW_s]
    refine loopN 64 (fun n i (s : am_I) => w_X12_flows_p169 post n i s N) (fun c s => am_u s (3, 0, 1) (64 + c) (wet c + flowC f wet 64 c)) (am_s M (3, 0, 26) ch) (fun m c hc hn => ?_) ?_
    · rw [fl c (by omega)] at hn ⊢
      rw [w_X12_flows_p169_s]
      unfold w_X12_flows_p169_b
      rw [ix64, nI_clamp (show c < 2 ^ 31 by omega), nI_clamp (show 64 + c < 2 ^ 31 by omega), am_s_same, setW_at hc, addW_at, nI_1, am_s_other _ _ (show (3, 0, 26) ≠ (3, 0, 1) by decide), am_s_same, hch c hc]
      have v : vp_in (nI c) 64 := vp_in_nI hc (by omega)
      have v2 : vp_in (nI (64 + c)) 1635 := vp_in_nI (by omega) (by omega)
      exact ⟨fun z => absurd z (nI_ge (b := 64) hc (by omega)), fun _ => ⟨v2, v, v2, hn⟩⟩
    · rw [fl 64 (Nat.le_refl _)]
      rw [w_X12_flows_p169_s]
      unfold w_X12_flows_p169_b
      exact ⟨fun _ => h ch, fun z => absurd (Int32.le_refl _) z⟩
  have sides : ∀ (zk : Int32 → am_I → am_N → Prop) (c : Nat) (ch : Nat → Int32), c < 64 → ¬ wet c ≤ 100 → (∀ ch' : Nat → Int32, ((∀ i, i < 64 → ch i = flowC f wet c i) → ∀ i, i < 64 → ch' i = flowC f wet (c + 1) i) → zk (nI (c + 1)) (am_s M (3, 0, 26) ch') N) →
      ∀ (j k : Nat), k + j = 4 → w_X12_flows_p50 post zk (j + 1) (nI c) (atV (lowM f c k)) (nI k) (am_s M (3, 0, 26) ch) N := by
    intro zk c ch hc hwet kk j
    induction j with
    | zero =>
      intro k hk
      have e : k = 4 := by omega
      subst e
      rw [w_X12_flows_p50_s]
      unfold w_X12_flows_p50_b
      obtain ⟨l, hl⟩ := lowM_some f hc
      have hl64 := lowM_lt f hc (Nat.le_refl 4) hl
      have hlow : lowC f c 4 = if f l < f c then l else c := by rw [lowC_M, hl]; rfl
      rw [atV_some hl, z_add, z_add, ix64, nI_clamp (show c < 2 ^ 31 by omega), nI_clamp (show l < 2 ^ 31 by omega), nI_clamp (show 64 + c < 2 ^ 31 by omega), mem ch, wat, nI_1]
      have v : vp_in (nI c) 64 := vp_in_nI hc (by omega)
      have vl : vp_in (nI l) 64 := vp_in_nI hl64 (by omega)
      refine ⟨fun _ => ⟨vp_in_nI (by omega) (by omega), vp_in_nI (by omega) (by omega), fun y => ⟨vp_in_nI (by omega) (by omega), fun u hu => ⟨v, v, vl, vl, ?_⟩⟩, fun y => ?_⟩, fun z => absurd (Int32.le_refl _) z⟩
      · subst hu
        rw [am_s_same, am_u_s, am_s_same, am_u_s]
        refine kk _ (fun hch i hi => ?_)
        rw [if_pos y] at hlow
        show _ = (if wet c ≤ 100 then flowC f wet c else if f (lowC f c 4) < f c then upd (upd (flowC f wet c) c (flowC f wet c c - (wet c - 100) / 2)) (lowC f c 4) (upd (flowC f wet c) c (flowC f wet c c - (wet c - 100) / 2) (lowC f c 4) + (wet c - 100) / 2) else flowC f wet c) i
        rw [if_neg hwet, hlow, if_pos y]
        unfold upd
        by_cases e1 : i = l
        · subst e1
          by_cases e2 : i = c
          · subst e2; simp [hch i hi]
          · simp [e2, hch i hi]
        · by_cases e2 : i = c
          · subst e2; simp [e1, hch i hi]
          · simp [e1, e2, hch i hi]
      · refine kk ch (fun hch i hi => ?_)
        rw [if_neg y] at hlow
        rw [hch i hi]
        show _ = (if wet c ≤ 100 then flowC f wet c else if f (lowC f c 4) < f c then _ else flowC f wet c) i
        rw [if_neg hwet, hlow, if_neg (fun x => absurd x (i32_nlt.mpr (Int32.le_refl _)))]
    | succ j ih =>
      intro k hk
      have hk4 : k < 4 := by omega
      have hn := ih (k + 1) (by omega)
      rw [w_X12_flows_p50_s]
      unfold w_X12_flows_p50_b w_X12_flows_p92
      simp only [eq_X12_besN hc hk4, nI_1, z_add, mem ch]
      refine ⟨fun z => absurd z (nI_ge (b := 4) hk4 (by omega)), fun _ => ?_⟩
      cases hb : besN c k with
      | none =>
        rw [besV_none hb]
        have e : lowM f c (k + 1) = lowM f c k := by
          show (match besN c k, lowM f c k with | none, r => r | some x, none => some x | some x, some l => if f x < f l then some x else some l) = _
          rw [hb]
        rw [e] at hn
        exact ⟨fun _ => hn, fun z => absurd rfl z⟩
      | some x =>
        have hx := besN_lt c hc k hk4 x hb
        rw [besV_some hb]
        refine ⟨fun z => absurd z (nI_ne_m1 (by omega)), fun _ => ?_⟩
        cases hl : lowM f c k with
        | none =>
          have e : lowM f c (k + 1) = some x := by
            show (match besN c k, lowM f c k with | none, r => r | some x, none => some x | some x, some l => if f x < f l then some x else some l) = _
            rw [hb, hl]
          rw [e] at hn
          exact ⟨fun _ => hn, fun z => absurd rfl z⟩
        | some l =>
          have hl64 := lowM_lt f hc (by omega) hl
          have e : lowM f c (k + 1) = if f x < f l then some x else some l := by
            show (match besN c k, lowM f c k with | none, r => r | some x, none => some x | some x, some l => if f x < f l then some x else some l) = _
            rw [hb, hl]
          rw [e] at hn
          refine ⟨fun z => absurd z (nI_ne_m1 (show l < 2 ^ 31 by omega)), fun _ => ?_⟩
          show vp_in (nI x) 1635 ∧ vp_in (nI l) 1635 ∧ ((f (nI l).toNatClampNeg ≤ f (nI x).toNatClampNeg → w_X12_flows_p50 post zk (j + 1) (nI c) (nI l) (nI (k + 1)) (am_s M (3, 0, 26) ch) N) ∧ (¬ f (nI l).toNatClampNeg ≤ f (nI x).toNatClampNeg → w_X12_flows_p50 post zk (j + 1) (nI c) (nI x) (nI (k + 1)) (am_s M (3, 0, 26) ch) N))
          rw [nI_clamp (show l < 2 ^ 31 by omega), nI_clamp (show x < 2 ^ 31 by omega)]
          refine ⟨vp_in_nI (by omega) (by omega), vp_in_nI (by omega) (by omega), fun z => ?_, fun z => ?_⟩
          · rw [if_neg (fun y => absurd z (i32_nle.mpr y))] at hn
            exact hn
          · rw [if_pos (i32_nle.mp z)] at hn
            exact hn
  have key : ∀ (j c : Nat), c + j = 64 → ∀ ch : Nat → Int32, (∀ i, i < 64 → ch i = flowC f wet c i) → w_X12_flows_p23 post (j + 1) (nI c) (am_s M (3, 0, 26) ch) N := by
    intro j
    induction j with
    | zero =>
      intro c hc ch hch
      have e : c = 64 := by omega
      subst e
      rw [w_X12_flows_p23_s]
      unfold w_X12_flows_p23_b
      exact ⟨fun _ => ⟨65, loop3 ch hch⟩, fun z => absurd (Int32.le_refl _) z⟩
    | succ j ih =>
      intro c hc ch hch
      have hc64 : c < 64 := by omega
      rw [w_X12_flows_p23_s]
      unfold w_X12_flows_p23_b
      rw [ix64, nI_clamp (show 64 + c < 2 ^ 31 by omega), mem ch, wat, nI_1]
      refine ⟨fun z => absurd z (nI_ge (b := 64) hc64 (by omega)), fun _ => ⟨vp_in_nI (by omega) (by omega), fun z => ⟨5, ?_⟩, fun z => ?_⟩⟩
      · exact sides _ c ch hc64 (i32_nle.mpr z) (fun ch' hch' => ih (c + 1) (by omega) ch' (hch' hch)) 4 0 (by omega)
      · refine ih (c + 1) (by omega) ch (fun i hi => ?_)
        rw [hch i hi]
        show _ = (if wet c ≤ 100 then flowC f wet c else _) i
        rw [if_pos (i32_nlt.mp z)]
  have key0 : ∀ (j c : Nat), c + j = 64 → ∀ ch : Nat → Int32, (∀ i, i < c → ch i = 0) → w_X12_flows_p2 post (j + 1) (nI c) (am_s M (3, 0, 26) ch) N := by
    intro j
    induction j with
    | zero =>
      intro c hc ch hch
      have e : c = 64 := by omega
      subst e
      rw [w_X12_flows_p2_s]
      unfold w_X12_flows_p2_b
      exact ⟨fun _ => ⟨65, key 64 0 (by omega) ch hch⟩, fun z => absurd (Int32.le_refl _) z⟩
    | succ j ih =>
      intro c hc ch hch
      have hc64 : c < 64 := by omega
      rw [w_X12_flows_p2_s]
      unfold w_X12_flows_p2_b
      rw [nI_clamp (show c < 2 ^ 31 by omega), nI_1, am_u_s]
      refine ⟨fun z => absurd z (nI_ge (b := 64) hc64 (by omega)), fun _ => ⟨vp_in_nI hc64 (by omega), ih (c + 1) (by omega) _ (fun i hi => ?_)⟩⟩
      unfold upd
      by_cases e : i = c
      · simp [e]
      · simp [e, hch i (by omega)]
  refine ⟨65, ?_⟩
  have h9 := key0 64 0 (by omega) (M (3, 0, 26)) (fun i hi => by omega)
  rw [am_s_id] at h9
  exact h9
end FM
