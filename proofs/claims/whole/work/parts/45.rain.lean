/-! ===== rain on both sides ===== -/
noncomputable def rsum (fa : Nat → Prop) (much : Nat → Int32) : Nat → Int32
  | 0 => 0
  | n + 1 => @ite Int32 (fa n) (Classical.propDecidable _) (rsum fa much n + much n) (rsum fa much n)
noncomputable def rfel (fa : Nat → Prop) (much : Nat → Int32) : Nat → Int64
  | 0 => 0
  | n + 1 => @ite Int64 (fa n) (Classical.propDecidable _) (rfel fa much n + (64 * much n).toInt64) (rfel fa much n)
theorem rsum_t {fa : Nat → Prop} {much : Nat → Int32} {n : Nat} (h : fa n) : rsum fa much (n + 1) = rsum fa much n + much n := by
  show @ite Int32 (fa n) (Classical.propDecidable _) _ _ = _
  rw [if_pos h]
theorem rsum_f {fa : Nat → Prop} {much : Nat → Int32} {n : Nat} (h : ¬ fa n) : rsum fa much (n + 1) = rsum fa much n := by
  show @ite Int32 (fa n) (Classical.propDecidable _) _ _ = _
  rw [if_neg h]
theorem rfel_t {fa : Nat → Prop} {much : Nat → Int32} {n : Nat} (h : fa n) : rfel fa much (n + 1) = rfel fa much n + (64 * much n).toInt64 := by
  show @ite Int64 (fa n) (Classical.propDecidable _) _ _ = _
  rw [if_pos h]
theorem rfel_f {fa : Nat → Prop} {much : Nat → Int32} {n : Nat} (h : ¬ fa n) : rfel fa much (n + 1) = rfel fa much n := by
  show @ite Int64 (fa n) (Classical.propDecidable _) _ _ = _
  rw [if_neg h]
/-- every cell gets m -/
def allW (w : Nat → Int32) (m : Int32) (n : Nat) : Nat → Int32 := addW w (fun _ => m) n
theorem allW_all (w : Nat → Int32) (a m : Int32) : allW (allW w a 64) m 64 = allW w (a + m) 64 := by
  funext i
  unfold allW addW
  by_cases h : i < 64
  · simp [h, Int32.add_assoc]
  · simp [h]
theorem allW_0 (w : Nat → Int32) : allW w 0 64 = w := by
  funext i
  unfold allW addW
  by_cases h : i < 64 <;> simp [h]
theorem setW_setW (f v w : Nat → Int32) : setW (setW f v) w = setW f w := by
  funext i
  unfold setW
  by_cases h : 64 ≤ i ∧ i < 128 <;> simp [h]
theorem setW_o {f w : Nat → Int32} {i : Nat} (h : ¬ (64 ≤ i ∧ i < 128)) : setW f w i = f i := by
  unfold setW
  rw [if_neg h]
section RN
variable {M : am_I} {N : am_N} {post : am_I → am_N → Prop} {postI : Int32 → am_I → am_N → Prop} {b : Nat}
theorem eq_X12_isBut {a1 a2 : Int32} : w_X12_isBut a1 a2 M N postI ↔ postI (am_b (M (3, 0, 0) 30 = a1 ∧ M (3, 0, 0) 31 = a2)) M N := by
  unfold w_X12_isBut
  by_cases h : M (3, 0, 0) 30 = a1 ∧ M (3, 0, 0) 31 = a2
  · rw [am_bt h]
    exact ⟨fun z => (z.2 h.1).2 h.2, fun z => ⟨fun y => absurd h.1 y, fun _ => ⟨fun y => absurd h.2 y, fun _ => z⟩⟩⟩
  · rw [am_bf h]
    by_cases h1 : M (3, 0, 0) 30 = a1
    · have h2 : ¬ M (3, 0, 0) 31 = a2 := fun y => h ⟨h1, y⟩
      exact ⟨fun z => (z.2 h1).1 h2, fun z => ⟨fun y => absurd h1 y, fun _ => ⟨fun _ => z, fun y => absurd y h2⟩⟩⟩
    · exact ⟨fun z => z.1 h1, fun z => ⟨fun _ => z, fun y => absurd y h1⟩⟩
/-- the rain r falls in this hour, as the reference has it -/
def fallM (M : am_I) (now : Int32) (r : Nat) : Prop := ¬ (M (3, 0, 0) 30 = 0 ∧ M (3, 0, 0) 31 = nI r) ∧ M (3, 0, 8) r ≤ now ∧ now ≤ M (3, 0, 9) r
theorem sp_X12_rains {n : Nat} (hn : n ≤ 30) (hR : M (3, 0, 1) 1630 = nI n) (h : post (am_s M (3, 0, 1) (setW (M (3, 0, 1)) (allW (getW (M (3, 0, 1))) (rsum (fallM M (M (3, 0, 1) 1624)) (M (3, 0, 10)) n) 64))) (am_ul N (3, 0, 0) 2 (N (3, 0, 0) 2 + rfel (fallM M (M (3, 0, 1) 1624)) (M (3, 0, 10)) n))) : w_X12_rains M N post := by
  unfold w_X12_rains
  generalize hF : M (3, 0, 1) = f at h hR
  generalize hW : getW f = wet at h
  generalize hfa : fallM M (f 1624) = fa at h
  have other : ∀ (g : Nat → Int32) (c : am_C), c ≠ (3, 0, 1) → am_s M (3, 0, 1) g c = M c := fun g c hc => am_s_other M g hc
  -- one rain on all cells
  have inner : ∀ (zk : Int32 → am_I → am_N → Prop) (r : Nat) (w : Nat → Int32) (N' : am_N), r < 30 → zk (nI (r + 1)) (am_s M (3, 0, 1) (setW f (allW w (M (3, 0, 10) r) 64))) (am_ul N' (3, 0, 0) 2 (N' (3, 0, 0) 2 + (64 * M (3, 0, 10) r).toInt64)) → w_X12_rains_p54 post zk 65 (nI r) 0 (am_s M (3, 0, 1) (setW f w)) N' := by
    intro zk r w N' hr hz
    have fl : ∀ c, c ≤ 64 → foldS (fun c (s : am_I) => am_u s (3, 0, 1) (64 + c) (w c + M (3, 0, 10) r)) c (am_s M (3, 0, 1) (setW f w)) = am_s M (3, 0, 1) (setW f (addW w (fun _ => M (3, 0, 10) r) c)) := by
      intro c
      induction c with
      | zero => intro _; rw [addW_0]; rfl
      | succ c ih =>
        intro hc
        show am_u (foldS _ c _) (3, 0, 1) (64 + c) _ = _
        rw [ih (by omega), am_u_s, setW_upd (by omega), addW_s]
    refine loopN 64 (fun n i (s : am_I) => w_X12_rains_p54 post zk n (nI r) i s N') (fun c s => am_u s (3, 0, 1) (64 + c) (w c + M (3, 0, 10) r)) (am_s M (3, 0, 1) (setW f w)) (fun m c hc hn => ?_) ?_
    · rw [fl c (by omega)] at hn ⊢
      rw [w_X12_rains_p54_s]
      unfold w_X12_rains_p54_b
      rw [ix64, nI_clamp (show r < 2 ^ 31 by omega), nI_clamp (show 64 + c < 2 ^ 31 by omega), am_s_same, setW_at hc, addW_at, nI_1 c, other _ _ (by decide)]
      have v2 : vp_in (nI (64 + c)) 1635 := vp_in_nI (by omega) (by omega)
      exact ⟨fun z => absurd z (nI_ge (b := 64) hc (by omega)), fun _ => ⟨v2, vp_in_nI hr (by omega), v2, hn⟩⟩
    · rw [fl 64 (Nat.le_refl _)]
      rw [w_X12_rains_p54_s]
      unfold w_X12_rains_p54_b
      rw [nI_clamp (show r < 2 ^ 31 by omega), other _ _ (by decide), nI_1]
      exact ⟨fun _ => ⟨vp_in_nI hr (by omega), hz⟩, fun z => absurd (Int32.le_refl _) z⟩
  have key : ∀ (j r : Nat), r + j = n → w_X12_rains_p2 post (j + 1) (nI r) (am_s M (3, 0, 1) (setW f (allW wet (rsum fa (M (3, 0, 10)) r) 64))) (am_ul N (3, 0, 0) 2 (N (3, 0, 0) 2 + rfel fa (M (3, 0, 10)) r)) := by
    intro j
    induction j with
    | zero =>
      intro r hr
      have e : r = n := by omega
      subst e
      rw [w_X12_rains_p2_s]
      unfold w_X12_rains_p2_b
      rw [am_s_same, setW_o (by omega), hR]
      exact ⟨fun _ => h, fun z => absurd (Int32.le_refl _) z⟩
    | succ j ih =>
      intro r hr
      have hrn : r < n := by omega
      have hn2 := ih (r + 1) (by omega)
      rw [w_X12_rains_p2_s]
      unfold w_X12_rains_p2_b
      rw [am_s_same, setW_o (by omega), hR, eq_X12_isBut]
      have v : vp_in (nI r) 30 := vp_in_nI (by omega) (by omega)
      refine ⟨fun z => absurd z (nI_ge hrn (by omega)), fun _ => ?_⟩
      rw [eq_X12_isIn, am_s_same, setW_o (by omega), other _ _ (by decide), other _ _ (by decide), other _ _ (by decide), nI_clamp (show r < 2 ^ 31 by omega), nI_1]
      have hfar : fa r ↔ (¬ (M (3, 0, 0) 30 = 0 ∧ M (3, 0, 0) 31 = nI r) ∧ M (3, 0, 8) r ≤ f 1624 ∧ f 1624 ≤ M (3, 0, 9) r) := by rw [← hfa]; exact Iff.rfl
      by_cases hb : M (3, 0, 0) 30 = 0 ∧ M (3, 0, 0) 31 = nI r
      · have hf : ¬ fa r := fun z => (hfar.mp z).1 hb
        rw [am_bt hb]
        rw [rsum_f hf, rfel_f hf] at hn2
        exact ⟨fun _ => hn2, fun z => absurd z (by decide)⟩
      · rw [am_bf hb]
        refine ⟨fun z => absurd rfl z, fun _ => ⟨v, v, fun z => ⟨65, ?_⟩, fun z => ?_⟩⟩
        · have hi : M (3, 0, 8) r ≤ f 1624 ∧ f 1624 ≤ M (3, 0, 9) r := Classical.byContradiction fun y => z (am_bf y)
          have hf : fa r := hfar.mpr ⟨hb, hi⟩
          rw [rsum_t hf, rfel_t hf] at hn2
          refine inner _ r _ _ (by omega) ?_
          rw [allW_all, am_ul_ul, am_ul_at, Int64.add_assoc]
          exact hn2
        · have hi : ¬ (M (3, 0, 8) r ≤ f 1624 ∧ f 1624 ≤ M (3, 0, 9) r) := fun y => by rw [am_bt y] at z; exact absurd z (by decide)
          have hf : ¬ fa r := fun y => hi (hfar.mp y).2
          rw [rsum_f hf, rfel_f hf] at hn2
          exact hn2
  refine ⟨n + 1, ?_⟩
  have h9 := key n 0 (by omega)
  have e1 : am_s M (3, 0, 1) (setW f (allW wet (rsum fa (M (3, 0, 10)) 0) 64)) = M := by
    show am_s M (3, 0, 1) (setW f (allW wet 0 64)) = M
    rw [allW_0, ← hW, setW_id, ← hF, am_s_id]
  have e2 : am_ul N (3, 0, 0) 2 (N (3, 0, 0) 2 + rfel fa (M (3, 0, 10)) 0) = N := by
    show am_ul N (3, 0, 0) 2 (N (3, 0, 0) 2 + 0) = N
    rw [Int64.add_zero, am_ul_id]
  rw [e1, e2] at h9
  exact h9
/-- a table of the class: its width and how many rows it has -/
def tabOK (M : am_I) (t w n : Nat) : Prop := M (2, t, 0) 1 = nI w ∧ M (2, t, 0) 3 = nI n ∧ n * w ≤ am_cap t ∧ am_cap t < 2 ^ 31 ∧ n < 2 ^ 31 ∧ w < 2 ^ 31
theorem sp_at {t w n r c : Nat} (hT : tabOK M t w n) (hr : r < n) (hc : c < w) (h : postI (M (2, t, 1) (r * w + c)) M N) : w_X9_at t (nI r) (nI c) M N postI := by
  obtain ⟨e1, e2, h1, h2, h3, h4⟩ := hT
  have hle : (r + 1) * w ≤ n * w := Nat.mul_le_mul_right w hr
  rw [Nat.add_mul] at hle
  unfold w_X9_at
  rw [e1, e2, pk_mul, nI_add, nI_clamp (show r * w + c < 2 ^ 31 by omega)]
  exact ⟨fun z => absurd z (nI_pos (by omega)), fun _ => ⟨fun z => absurd z (nI_ge hr h3), fun _ => ⟨fun z => absurd z (nI_pos (by omega)), fun _ => ⟨fun _ => ⟨vp_in_nI (by omega) h2, h⟩, fun z => absurd (nI_lt hc h4) z⟩⟩⟩⟩
theorem sp_at_out {t w n r : Nat} {c : Int32} (hT : tabOK M t w n) (hr : n ≤ r) (hr2 : r < 2 ^ 31) (h : postI 0 M N) : w_X9_at t (nI r) c M N postI := by
  obtain ⟨e1, e2, h1, h2, h3, h4⟩ := hT
  unfold w_X9_at
  rw [e2]
  exact ⟨fun _ => h, fun _ => ⟨fun _ => h, fun z => absurd (nI_le hr hr2) z⟩⟩
/-- the rain r falls in this hour, as the class has it -/
def fallC (M : am_I) (now out : Int32) (r : Nat) : Prop := ¬ nI r = out ∧ M (2, 1, 1) (r * 3) ≤ now ∧ now ≤ M (2, 1, 1) (r * 3 + 1)
theorem sp_X0_fallingAt {n : Nat} {now out : Int32} (hT : tabOK M 1 3 n) (h : postI (rsum (fallC M now out) (fun r => M (2, 1, 1) (r * 3 + 2)) n) M N) : w_X0_fallingAt now out M N postI := by
  unfold w_X0_fallingAt
  have key : ∀ (j r : Nat), r + j = n → w_X0_fallingAt_p5 postI (j + 1) now out (rsum (fallC M now out) (fun r => M (2, 1, 1) (r * 3 + 2)) r) (nI r) M N := by
    intro j
    induction j with
    | zero =>
      intro r hr
      have e : r = n := by omega
      subst e
      rw [w_X0_fallingAt_p5_s]
      unfold w_X0_fallingAt_p5_b
      rw [hT.2.1]
      exact ⟨fun _ => h, fun z => absurd (Int32.le_refl _) z⟩
    | succ j ih =>
      intro r hr
      have hrn : r < n := by omega
      have hn2 := ih (r + 1) (by omega)
      rw [w_X0_fallingAt_p5_s]
      unfold w_X0_fallingAt_p5_b
      rw [hT.2.1, nI_1]
      refine ⟨fun z => absurd z (nI_ge hrn hT.2.2.2.2.1), fun _ => ⟨fun z => ?_, fun z => ?_⟩⟩
      · rw [rsum_f (fun y => y.1 z)] at hn2
        exact hn2
      · refine sp_at (c := 0) hT hrn (by omega) ⟨fun y => ?_, fun y => ?_⟩
        · rw [rsum_f (fun x => absurd y (i32_nlt.mpr x.2.1))] at hn2
          exact hn2
        · refine sp_at (c := 1) hT hrn (by omega) ⟨fun x => ?_, fun x => ?_⟩
          · rw [rsum_f (fun u => absurd x (i32_nlt.mpr u.2.2))] at hn2
            exact hn2
          · refine sp_at (c := 2) hT hrn (by omega) ?_
            rw [rsum_t (show fallC M now out r from ⟨z, i32_nlt.mp y, i32_nlt.mp x⟩)] at hn2
            exact hn2
  exact ⟨n + 1, key n 0 (by omega)⟩
theorem sp_X2_rainOn {m : Int32} (h : post (am_s M (1, b, 3) (allW (M (1, b, 3)) m 64)) (am_ul N (1, b, 1) 4 (N (1, b, 1) 4 + m.toInt64 * 64))) : w_X2_rainOn b m M N post := by
  unfold w_X2_rainOn
  refine ⟨fun _ => ⟨65, ?_⟩, fun e => ?_⟩
  · have fl : ∀ c, c ≤ 64 → foldS (fun c (s : am_I) => am_u s (1, b, 3) c (M (1, b, 3) c + m)) c M = am_s M (1, b, 3) (addW (M (1, b, 3)) (fun _ => m) c) := by
      intro c
      induction c with
      | zero => intro _; rw [addW_0, am_s_id]; rfl
      | succ c ih =>
        intro hc
        show am_u (foldS _ c _) (1, b, 3) c _ = _
        rw [ih (by omega), am_u_s, addW_s]
    refine loopN 64 (fun n i (s : am_I) => w_X2_rainOn_p7 b post n m i s N) (fun c s => am_u s (1, b, 3) c (M (1, b, 3) c + m)) M (fun k c hc hn => ?_) ?_
    · rw [fl c (by omega)] at hn ⊢
      rw [w_X2_rainOn_p7_s]
      unfold w_X2_rainOn_p7_b
      rw [nI_clamp (show c < 2 ^ 31 by omega), am_s_same, addW_at, nI_1]
      have v : vp_in (nI c) 64 := vp_in_nI hc (by omega)
      exact ⟨fun z => absurd z (nI_ge (b := 64) hc (by omega)), fun _ => ⟨v, v, hn⟩⟩
    · rw [fl 64 (Nat.le_refl _)]
      rw [w_X2_rainOn_p7_s]
      unfold w_X2_rainOn_p7_b
      exact ⟨fun _ => h, fun z => absurd (Int32.le_refl _) z⟩
  · subst e
    rw [allW_0, am_s_id] at h
    have e2 : (0 : Int32).toInt64 * 64 = 0 := by decide
    rw [e2, Int64.add_zero, am_ul_id] at h
    exact h
end RN
