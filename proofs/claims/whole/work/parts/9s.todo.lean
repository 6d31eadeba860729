/-! ===== the reference: the first statement that holds; rain to come; facts ===== -/
section TD
variable {fa : Nat → Int} {x : SX} {M M1 : am_I} {N N1 N2 : am_N} {post : Int32 → am_I → am_N → Prop} {postL : Int64 → am_I → am_N → Prop} {i j e k b r0 : Nat} {SS : List (Nat × Nat)}
theorem one_big : big 1 := ⟨by decide, by decide⟩
theorem r_runs {E : List (Nat × Nat)} {t : Bool} (hf : ∀ a, a < 8 → sml (fa a)) (ht : tyR 60 E [] = some [t]) (hW : ∀ a, a < 8 → N (3, 0, 42) a = iL (fa a)) (hb : b + E.length ≤ 6300) (hm : ∀ k, k < E.length → M (3, 0, 39) (b + k) = nI (E.getD k (0, 0)).1 ∧ M (3, 0, 40) (b + k) = nI (E.getD k (0, 0)).2) (h : ∀ N1, FrN N N1 → postL (iL ((ev fa E []).headD 0)) M N1) : w_X12_runs (nI b) (nI (b + E.length)) M N postL := by
  unfold w_X12_runs
  refine ⟨1 + E.length, r_run (e := b + E.length) hf hb E b 1 [] [] [t] N ht (by decide) trivial trivial hW (Nat.le_refl _) hm (fun N1 F1 S1 V1 => ?_)⟩
  rw [w_X12_runs_p5_s]
  unfold w_X12_runs_p5_b
  refine ⟨fun _ => ?_, fun z => absurd (nI_le (Nat.le_refl _) (by omega)) z⟩
  have e1 := VT_one V1
  rw [e1] at S1
  have e0 : N1 (3, 0, 41) 0 = iL ((ev fa E []).headD 0) := S1.1
  rw [e0]
  exact h N1 F1
theorem RPf.at {P0 A P1 : List (Nat × Nat)} (P : RPf SS M) (e : SS = P0 ++ (A ++ P1)) (hk : k < A.length) : M (3, 0, 39) (P0.length + k) = nI (A.getD k (0, 0)).1 ∧ M (3, 0, 40) (P0.length + k) = nI (A.getD k (0, 0)).2 := by
  have := P (P0.length + k) (by rw [e, List.length_append, List.length_append]; omega)
  have g : SS.getD (P0.length + k) (0, 0) = A.getD k (0, 0) := by rw [e, gd_lr, gd_l hk]
  rw [g] at this
  exact this
theorem r_todo (hf : ∀ a, a < 8 → sml (fa a)) (hr : r0 < 9) (P : RPf SS M) (hS : SS.length ≤ 6300) : ∀ (PP : List SX) (k : Nat) (N : am_N), (∀ x, x ∈ PP → okS x) → (∀ j, j < PP.length → ∃ P0 P1, SS = P0 ++ (stS (PP.getD j (0, [], [])) ++ P1) ∧ M (3, 0, 37) (24 * r0 + k + j) = nI (P0.length + (PP.getD j (0, [], [])).2.1.length) ∧ M (3, 0, 38) (24 * r0 + k + j) = nI (P0.length + (stS (PP.getD j (0, [], []))).length)) → M (3, 0, 34) r0 = nI (k + PP.length) → k + PP.length ≤ 24 → (∀ a, a < 8 → N (3, 0, 42) a = iL (fa a)) → (sel fa PP k = none → ∀ N1, FrN N N1 → post (-1) M N1) → (∀ k' x, sel fa PP k = some (k', x) → ∀ N1, FrN N N1 → post (nI (24 * r0 + k')) M N1) → w_X12_toDo_p155 post (PP.length + 1) (nI r0) (nI (24 * r0 + k)) M N
  | [], k, N, hok, hg, e34, h24, hW, h0, h1 => by
    rw [w_X12_toDo_p155_s]
    unfold w_X12_toDo_p155_b
    have h24' : k + 0 ≤ 24 := h24
    rw [nI_clamp (show r0 < 2 ^ 31 by omega), e34]
    have e24 : (24 : Int32) * nI r0 + nI (k + ([] : List SX).length) = nI (24 * r0 + k) := by
      have : nI 24 * nI r0 = nI (24 * r0) := pk_mul 24 r0
      show (24 : Int32) * nI r0 + nI (k + 0) = _
      rw [Nat.add_zero, ← nI_add, ← this]; rfl
    rw [e24]
    exact ⟨vp_in_nI hr (by omega), fun _ => h0 rfl N (fun _ _ => rfl), fun z => absurd (nI_le (Nat.le_refl _) (by omega)) z⟩
  | x :: PP, k, N, hok, hg, e34, h24, hW, h0, h1 => by
    have K : okS x := hok x List.mem_cons_self
    rw [List.length_cons] at h24 e34
    obtain ⟨P0, P1, es, m37, m38⟩ := hg 0 (by rw [List.length_cons]; omega)
    have ex : (x :: PP).getD 0 (0, [], []) = x := rfl
    rw [ex, Nat.add_zero] at m37 m38
    rw [ex] at es
    have lst : (stS x).length = x.2.1.length + x.2.2.length := by unfold stS; rw [List.length_append]
    have lS : P0.length + (x.2.1.length + x.2.2.length) ≤ SS.length := by
      rw [es, List.length_append, List.length_append, lst]; omega
    show w_X12_toDo_p155 post (PP.length + 1 + 1) _ _ M N
    rw [w_X12_toDo_p155_s]
    unfold w_X12_toDo_p155_b
    rw [nI_clamp (show r0 < 2 ^ 31 by omega), e34]
    have e24 : (24 : Int32) * nI r0 + nI (k + (PP.length + 1)) = nI (24 * r0 + k + (PP.length + 1)) := by
      have : nI 24 * nI r0 = nI (24 * r0) := pk_mul 24 r0
      rw [Nat.add_assoc (24 * r0), ← nI_add (24 * r0), ← this]; rfl
    have vk : vp_in (nI (24 * r0 + k)) 216 := vp_in_nI (by omega) (by omega)
    rw [e24, nI_clamp (show 24 * r0 + k < 2 ^ 31 by omega), m37, m38, lst, nI_eq (show P0.length + x.2.1.length < 2 ^ 31 by omega) (show P0.length + (x.2.1.length + x.2.2.length) < 2 ^ 31 by omega), nI_1]
    have e1 : sel fa (x :: PP) k = if hbB fa x = true then some (k, x) else sel fa PP (k + 1) := rfl
    refine ⟨vp_in_nI hr (by omega), fun z => absurd z (nI_ge (by omega) (by omega)), fun _ => ⟨vk, vk, fun z => ?_, fun z => ⟨vk, vk, ?_⟩⟩⟩
    · have hb : x.2.2 = [] := List.length_eq_zero_iff.mp (by omega)
      have hh : hbB fa x = true := by unfold hbB; rw [hb]; rfl
      rw [if_pos hh] at e1
      exact h1 k x e1 N (fun _ _ => rfl)
    · have hne : ¬ x.2.2 = [] := fun w => z (by rw [w]; rfl)
      have t := (K.b.resolve_left hne) [] 60 (by show 0 + 24 ≤ 60; omega)
      have hie : x.2.2.isEmpty = false := by
        cases h : x.2.2 with
        | nil => exact absurd h hne
        | cons a B => rfl
      have V := (ev_fr (s2 := []) hf x.2.2 [] [] [true] t trivial).2
      have e2 := VT_one V
      have hbit : (ev fa x.2.2 []).headD 0 = 0 ∨ (ev fa x.2.2 []).headD 0 = 1 := by rw [e2] at V; exact V.1
      have hbb : hbB fa x = true ↔ (ev fa x.2.2 []).headD 0 = 1 := by
        unfold hbB
        rw [hie, Bool.false_or, beq_iff_eq]
      have es' : SS = (P0 ++ x.2.1) ++ (x.2.2 ++ P1) := by
        rw [es]; unfold stS; rw [List.append_assoc, List.append_assoc]
      have lP : (P0 ++ x.2.1).length = P0.length + x.2.1.length := List.length_append
      rw [← Nat.add_assoc]
      refine r_runs (E := x.2.2) (b := P0.length + x.2.1.length) hf t hW (by omega) (fun m hm => ?_) (fun N1 F1 => ?_)
      · have := P.at es' hm
        rw [lP] at this
        exact this
      · have one : (1 : Int64) = iL 1 := by decide
        have sb : big ((ev fa x.2.2 []).headD 0) := by rcases hbit with w | w <;> rw [w] <;> exact ⟨by decide, by decide⟩
        rw [one, iL_eq sb one_big]
        refine ⟨fun z2 => ?_, fun z2 => ?_⟩
        · rw [if_neg (fun w => z2 (hbb.mp w))] at e1
          rw [e1] at h0 h1
          refine r_todo hf hr P hS PP (k + 1) N1 (fun y hy => hok y (List.mem_cons_of_mem _ hy)) (fun j hj => ?_) (by rw [e34]; congr 1; omega) (by omega) (fun a ha => by rw [F1 _ (by simp)]; exact hW a ha) (fun z N2 F2 => h0 z N2 (F1.tr F2)) (fun k' y z N2 F2 => h1 k' y z N2 (F1.tr F2))
          have := hg (j + 1) (by rw [List.length_cons]; omega)
          rw [gd_s] at this
          rw [show 24 * r0 + (k + 1) + j = 24 * r0 + k + (j + 1) by omega]
          exact this
        · rw [if_pos (hbb.mpr z2)] at e1
          exact h1 k x e1 N1 F1
theorem sel_sp : ∀ (PP : List SX) (k k' : Nat) (x : SX), sel fa PP k = some (k', x) → k ≤ k' ∧ k' < k + PP.length ∧ PP.getD (k' - k) (0, [], []) = x ∧ x ∈ PP
  | [], k, k', x, h => by exact absurd h (by simp [sel])
  | y :: PP, k, k', x, h => by
    have e1 : sel fa (y :: PP) k = if hbB fa y = true then some (k, y) else sel fa PP (k + 1) := rfl
    rw [e1] at h
    rw [List.length_cons]
    by_cases hh : hbB fa y = true
    · rw [if_pos hh] at h
      have := Option.some.inj h
      have h1 : k = k' := congrArg Prod.fst this
      have h2 : y = x := congrArg Prod.snd this
      subst h1
      subst h2
      exact ⟨Nat.le_refl _, by omega, by rw [Nat.sub_self]; rfl, List.mem_cons_self⟩
    · rw [if_neg hh] at h
      obtain ⟨p1, p2, p3, p4⟩ := sel_sp PP (k + 1) k' x h
      refine ⟨by omega, by omega, ?_, List.mem_cons_of_mem _ p4⟩
      rw [show k' - k = (k' - (k + 1)) + 1 by omega, gd_s]
      exact p3
end TD
def nrN (bk : Bk) (now : Nat) : Nat → Nat
  | 0 => 900
  | r + 1 => if bk.rT r ≤ now then nrN bk now r else min (nrN bk now r) (max (bk.rF r) (now + 1) - now)
section RN3
variable {M : am_I} {N : am_N} {bk : Bk} {cn : Cn} {now : Nat} {post : Int32 → am_I → am_N → Prop}
theorem nrN_le (r : Nat) : nrN bk now r ≤ 900 := by
  induction r with
  | zero => exact Nat.le_refl _
  | succ r ih =>
    unfold nrN
    by_cases e : bk.rT r ≤ now
    · rw [if_pos e]; exact ih
    · rw [if_neg e]; omega
theorem i_min {a b : Nat} (ha : a < 2 ^ 31) (hb : b < 2 ^ 31) (h : post (nI (min a b)) M N) : w_J9_min_7cf53 (nI a) (nI b) M N post := by
  unfold w_J9_min_7cf53
  rw [nI_ltI hb ha]
  refine ⟨fun z => ?_, fun z => ?_⟩
  · rw [Nat.min_eq_right (by omega)] at h; exact h
  · rw [Nat.min_eq_left (by omega)] at h; exact h
theorem i_max {a b : Nat} (ha : a < 2 ^ 31) (hb : b < 2 ^ 31) (h : post (nI (max a b)) M N) : w_J9_max_7cf53 (nI a) (nI b) M N post := by
  unfold w_J9_max_7cf53
  rw [nI_ltI ha hb]
  refine ⟨fun z => ?_, fun z => ?_⟩
  · rw [Nat.max_eq_right (by omega)] at h; exact h
  · rw [Nat.max_eq_left (by omega)] at h; exact h
theorem c_hours (T : tabOK M 1 3 cn.r) (hR : ∀ r, r < cn.r → M (2, 1, 1) (r * 3 + 0) = nI (bk.rF r) ∧ M (2, 1, 1) (r * 3 + 1) = nI (bk.rT r)) (hB : ∀ r, r < cn.r → bk.rF r < 2 ^ 31 ∧ bk.rT r < 2 ^ 31) (h30 : cn.r ≤ 30) (hn : now ≤ 719) (h : post (nI (nrN bk now cn.r)) M N) : w_X0_hoursToRain (nI now) M N post := by
  unfold w_X0_hoursToRain
  have key : ∀ (d r : Nat), r + d = cn.r → w_X0_hoursToRain_p6 post (d + 1) (nI now) (nI (nrN bk now r)) (nI r) M N := by
    intro d
    induction d with
    | zero =>
      intro r hr
      have hr' : r = cn.r := by omega
      subst hr'
      rw [w_X0_hoursToRain_p6_s]
      unfold w_X0_hoursToRain_p6_b
      rw [T.2.1]
      exact ⟨fun _ => h, fun z => absurd (nI_le (Nat.le_refl _) (by omega)) z⟩
    | succ d ih =>
      intro r hr
      obtain ⟨h1, h2⟩ := hR r (by omega)
      obtain ⟨b1, b2⟩ := hB r (by omega)
      have l9 := nrN_le (bk := bk) (now := now) r
      have ih' := ih (r + 1) (by omega)
      rw [w_X0_hoursToRain_p6_s]
      unfold w_X0_hoursToRain_p6_b
      rw [T.2.1, nI_1, nI_1]
      refine ⟨fun z => absurd z (nI_ge (by omega) (by omega)), fun _ => sp_at (c := 1) T (by omega) (by omega) ?_⟩
      rw [h2, nI_leI b2 (show now < 2 ^ 31 by omega)]
      unfold nrN at ih'
      refine ⟨fun z => ?_, fun z => sp_at (c := 0) T (by omega) (by omega) ?_⟩
      · rw [if_pos z] at ih'; exact ih'
      · rw [if_neg z] at ih'
        rw [h1]
        refine i_max b1 (by omega) ?_
        have hmx : max (bk.rF r) (now + 1) < 2 ^ 31 := by omega
        have es : nI (max (bk.rF r) (now + 1)) - nI now = nI (max (bk.rF r) (now + 1) - now) := pk_sub (by omega)
        show w_J9_min_7cf53 (nI (nrN bk now r)) (nI (max (bk.rF r) (now + 1)) - nI now) M N _
        rw [es]
        exact i_min (by omega) (by omega) ih'
  exact ⟨cn.r + 1, key cn.r 0 (by omega)⟩
theorem r_next (ec : M (3, 0, 0) 10 = nI cn.r) (en : M (3, 0, 1) 1624 = nI now) (hR : ∀ r, r < cn.r → M (3, 0, 8) r = nI (bk.rF r) ∧ M (3, 0, 9) r = nI (bk.rT r)) (hB : ∀ r, r < cn.r → bk.rF r < 2 ^ 31 ∧ bk.rT r < 2 ^ 31) (h30 : cn.r ≤ 30) (hn : now ≤ 719) (h : post (nI (nrN bk now cn.r)) M N) : w_X12_nextRain M N post := by
  unfold w_X12_nextRain
  have key : ∀ (d r : Nat), r + d = cn.r → w_X12_nextRain_p6 post (d + 1) (nI (nrN bk now r)) (nI r) M N := by
    intro d
    induction d with
    | zero =>
      intro r hr
      have hr' : r = cn.r := by omega
      subst hr'
      rw [w_X12_nextRain_p6_s]
      unfold w_X12_nextRain_p6_b
      rw [ec]
      exact ⟨fun _ => h, fun z => absurd (nI_le (Nat.le_refl _) (by omega)) z⟩
    | succ d ih =>
      intro r hr
      obtain ⟨h1, h2⟩ := hR r (by omega)
      obtain ⟨b1, b2⟩ := hB r (by omega)
      have l9 := nrN_le (bk := bk) (now := now) r
      have ih' := ih (r + 1) (by omega)
      have vr : vp_in (nI r) 30 := vp_in_nI (by omega) (by omega)
      rw [w_X12_nextRain_p6_s]
      unfold w_X12_nextRain_p6_b
      rw [ec, en, nI_1, nI_clamp (show r < 2 ^ 31 by omega), h1, h2, nI_leI b2 (show now < 2 ^ 31 by omega)]
      unfold nrN at ih'
      refine ⟨fun z => absurd z (nI_ge (by omega) (by omega)), fun _ => ⟨vr, fun z => ?_, fun z => ⟨vr, ?_⟩⟩⟩
      · rw [if_pos z] at ih'; exact ih'
      · rw [if_neg z] at ih'
        have fin : w_J9_min_7cf53 (nI (nrN bk now r)) (nI (max (bk.rF r) (now + 1) - now)) M N (fun zr4 zM5 zN6 => w_X12_nextRain_p6 post (d + 1) zr4 (nI (r + 1)) zM5 zN6) := i_min (by omega) (by omega) ih'
        by_cases hc : now ≤ bk.rF r
        · have es : nI (bk.rF r) - nI now = nI (bk.rF r - now) := pk_sub hc
          rw [es]
          refine i_max (a := 1) (by omega) (by omega) ?_
          rw [show max (bk.rF r) (now + 1) - now = max 1 (bk.rF r - now) by omega] at fin
          exact fin
        · have hneg : nI (bk.rF r) - nI now < 0 := pk_sneg (by omega) (by omega)
          rw [show max (bk.rF r) (now + 1) - now = 1 by omega] at fin
          unfold w_J9_max_7cf53
          refine ⟨fun z2 => ?_, fun _ => fin⟩
          exact absurd (Int32.lt_trans z2 hneg) (by decide)
  exact ⟨cn.r + 1, key cn.r 0 (by omega)⟩
end RN3
