/-! ===== counted loops; dry ===== -/
def foldS {σ : Type} (f : Nat → σ → σ) : Nat → σ → σ
  | 0, s => s
  | k + 1, s => f k (foldS f k s)
theorem loopN {σ : Type} (n : Nat) (W : Nat → Int32 → σ → Prop) (f : Nat → σ → σ) (s0 : σ) (hstep : ∀ m c, c < n → W m (nI (c + 1)) (f c (foldS f c s0)) → W (m + 1) (nI c) (foldS f c s0)) (hexit : W 1 (nI n) (foldS f n s0)) : W (n + 1) 0 s0 := by
  have key : ∀ (j c : Nat), c + j = n → W (j + 1) (nI c) (foldS f c s0) := by
    intro j
    induction j with
    | zero =>
      intro c hc
      have e : c = n := by omega
      subst e
      exact hexit
    | succ j ih =>
      intro c hc
      exact hstep (j + 1) c (by omega) (ih (c + 1) (by omega))
  exact key n 0 (by omega)
theorem am_ul_ul (N : am_N) (c : am_C) (k : Nat) (x y : Int64) : am_ul (am_ul N c k x) c k y = am_ul N c k y := by
  unfold am_ul
  rw [am_s_s, am_s_same]
  congr 1
  funext j
  unfold vp_updL
  by_cases e : j = k <;> simp [e]
theorem am_ul_at (N : am_N) (c : am_C) (k : Nat) (x : Int64) : am_ul N c k x c k = x := by
  rw [am_ul_c, pk_uLs]
theorem am_ul_id (N : am_N) (c : am_C) (k : Nat) : am_ul N c k (N c k) = N := by
  unfold am_ul
  have e : vp_updL (N c) k (N c k) = N c := by
    funext j
    unfold vp_updL
    by_cases e : j = k
    · subst e; simp
    · simp [e]
  rw [e, am_s_id]
/-- the wet after (c), over the first n cells; and how many lost 1 -/
def dryW (w : Nat → Int32) (n : Nat) : Nat → Int32 := fun i => if i < n then (if w i = 0 then w i else w i - 1) else w i
def dryL (w : Nat → Int32) : Nat → Int64
  | 0 => 0
  | n + 1 => if w n = 0 then dryL w n else dryL w n + 1
theorem dryW_at (w : Nat → Int32) (n : Nat) : dryW w n n = w n := by simp [dryW]
theorem dryW_s (w : Nat → Int32) (n : Nat) : dryW w (n + 1) = if w n = 0 then dryW w n else upd (dryW w n) n (w n - 1) := by
  by_cases h0 : w n = 0
  · rw [if_pos h0]
    funext i
    unfold dryW
    by_cases h1 : i < n
    · simp [h1, show i < n + 1 by omega]
    · by_cases h2 : i = n
      · subst h2; simp [h0]
      · simp [h1, show ¬ i < n + 1 by omega]
  · rw [if_neg h0]
    funext i
    unfold dryW upd
    by_cases h1 : i < n
    · simp [h1, show i < n + 1 by omega, show i ≠ n by omega]
    · by_cases h2 : i = n
      · subst h2; simp [h0]
      · simp [h1, h2, show ¬ i < n + 1 by omega]
section LD
variable {M : am_I} {N : am_N} {post : am_I → am_N → Prop} {b : Nat}
theorem i64_addA (a b : Int64) : a + b + 1 = a + (b + 1) := Int64.add_assoc a b 1
theorem sp_X2_dry (hw : ∀ c, c < 64 → 0 ≤ M (1, b, 3) c) (h : post (am_s M (1, b, 3) (dryW (M (1, b, 3)) 64)) (am_ul N (1, b, 1) 5 (N (1, b, 1) 5 + dryL (M (1, b, 3)) 64))) : w_X2_dry b M N post := by
  unfold w_X2_dry
  refine ⟨65, ?_⟩
  have fl : ∀ c, foldS (fun c (s : am_I × am_N) => if M (1, b, 3) c = 0 then s else (am_u s.1 (1, b, 3) c (M (1, b, 3) c - 1), am_ul s.2 (1, b, 1) 5 (s.2 (1, b, 1) 5 + 1))) c (M, N) = (am_s M (1, b, 3) (dryW (M (1, b, 3)) c), am_ul N (1, b, 1) 5 (N (1, b, 1) 5 + dryL (M (1, b, 3)) c)) := by
    intro c
    induction c with
    | zero =>
      have e1 : dryW (M (1, b, 3)) 0 = M (1, b, 3) := by funext i; simp [dryW]
      show (M, N) = (am_s M (1, b, 3) (dryW (M (1, b, 3)) 0), am_ul N (1, b, 1) 5 (N (1, b, 1) 5 + 0))
      rw [e1, am_s_id, Int64.add_zero, am_ul_id]
    | succ c ih =>
      show (if M (1, b, 3) c = 0 then _ else _) = _
      rw [ih, dryW_s]
      show _ = (_, am_ul N (1, b, 1) 5 (N (1, b, 1) 5 + (if M (1, b, 3) c = 0 then dryL (M (1, b, 3)) c else dryL (M (1, b, 3)) c + 1)))
      by_cases h0 : M (1, b, 3) c = 0
      · rw [if_pos h0, if_pos h0, if_pos h0]
      · rw [if_neg h0, if_neg h0, if_neg h0]
        dsimp only
        rw [am_u_s, am_ul_ul, am_ul_at, i64_addA]
  refine loopN 64 (fun n i (s : am_I × am_N) => w_X2_dry_p2 b post n i s.1 s.2) (fun c s => if M (1, b, 3) c = 0 then s else (am_u s.1 (1, b, 3) c (M (1, b, 3) c - 1), am_ul s.2 (1, b, 1) 5 (s.2 (1, b, 1) 5 + 1))) (M, N) (fun m c hc hn => ?_) ?_
  · rw [fl] at hn ⊢
    dsimp only at hn ⊢
    rw [w_X2_dry_p2_s]
    unfold w_X2_dry_p2_b
    rw [nI_clamp (show c < 2 ^ 31 by omega), am_s_same, dryW_at, nI_1]
    have v : vp_in (nI c) 64 := vp_in_nI hc (by omega)
    refine ⟨fun z => absurd z (nI_ge (b := 64) hc (by omega)), fun _ => ⟨v, fun z => ?_, fun z => ⟨v, v, ?_⟩⟩⟩
    · have h0 : M (1, b, 3) c = 0 := by
        have := hw c hc
        rw [Int32.le_iff_toInt_le] at this z
        exact Int32.toInt_inj.mp (by omega)
      rw [if_pos h0] at hn
      exact hn
    · have h0 : ¬ M (1, b, 3) c = 0 := fun e => z (by rw [e]; exact Int32.le_refl _)
      rw [if_neg h0] at hn
      exact hn
  · rw [fl]
    rw [w_X2_dry_p2_s]
    unfold w_X2_dry_p2_b
    exact ⟨fun _ => h, fun z => absurd (Int32.le_refl _) z⟩
/-- the reference's field with another row of wet -/
def setW (f w : Nat → Int32) : Nat → Int32 := fun i => if 64 ≤ i ∧ i < 128 then w (i - 64) else f i
def getW (f : Nat → Int32) : Nat → Int32 := fun j => f (64 + j)
theorem setW_id (f : Nat → Int32) : setW f (getW f) = f := by
  funext i
  unfold setW getW
  by_cases h : 64 ≤ i ∧ i < 128
  · rw [if_pos h, show 64 + (i - 64) = i by omega]
  · rw [if_neg h]
theorem setW_at {f w : Nat → Int32} {j : Nat} (hj : j < 64) : setW f w (64 + j) = w j := by
  unfold setW
  rw [if_pos (by omega), show 64 + j - 64 = j by omega]
theorem setW_upd {f w : Nat → Int32} {j : Nat} {x : Int32} (hj : j < 64) : upd (setW f w) (64 + j) x = setW f (upd w j x) := by
  funext i
  unfold setW upd
  by_cases e : i = 64 + j
  · subst e; simp [show 64 + j < 128 by omega]
  · by_cases h : 64 ≤ i ∧ i < 128
    · simp [e, h, show i - 64 ≠ j by omega]
    · simp [e, h]
theorem sp_X12_dries (h : post (am_s M (3, 0, 1) (setW (M (3, 0, 1)) (dryW (getW (M (3, 0, 1))) 64))) (am_ul N (3, 0, 0) 3 (N (3, 0, 0) 3 + dryL (getW (M (3, 0, 1))) 64))) : w_X12_dries M N post := by
  unfold w_X12_dries
  refine ⟨65, ?_⟩
  generalize hw : getW (M (3, 0, 1)) = w at h
  have hw2 : M (3, 0, 1) = setW (M (3, 0, 1)) w := by rw [← hw, setW_id]
  have fl : ∀ c, c ≤ 64 → foldS (fun c (s : am_I × am_N) => if w c = 0 then s else (am_u s.1 (3, 0, 1) (64 + c) (w c - 1), am_ul s.2 (3, 0, 0) 3 (s.2 (3, 0, 0) 3 + 1))) c (M, N) = (am_s M (3, 0, 1) (setW (M (3, 0, 1)) (dryW w c)), am_ul N (3, 0, 0) 3 (N (3, 0, 0) 3 + dryL w c)) := by
    intro c
    induction c with
    | zero =>
      intro _
      have e1 : dryW w 0 = w := by funext i; simp [dryW]
      show (M, N) = (am_s M (3, 0, 1) (setW (M (3, 0, 1)) (dryW w 0)), am_ul N (3, 0, 0) 3 (N (3, 0, 0) 3 + 0))
      rw [e1, ← hw2, am_s_id, Int64.add_zero, am_ul_id]
    | succ c ih =>
      intro hc
      show (if w c = 0 then _ else _) = _
      rw [ih (by omega), dryW_s]
      show _ = (_, am_ul N (3, 0, 0) 3 (N (3, 0, 0) 3 + (if w c = 0 then dryL w c else dryL w c + 1)))
      by_cases h0 : w c = 0
      · rw [if_pos h0, if_pos h0, if_pos h0]
      · rw [if_neg h0, if_neg h0, if_neg h0]
        dsimp only
        rw [am_u_s, setW_upd (by omega), am_ul_ul, am_ul_at, i64_addA]
  refine loopN 64 (fun n i (s : am_I × am_N) => w_X12_dries_p2 post n i s.1 s.2) (fun c s => if w c = 0 then s else (am_u s.1 (3, 0, 1) (64 + c) (w c - 1), am_ul s.2 (3, 0, 0) 3 (s.2 (3, 0, 0) 3 + 1))) (M, N) (fun m c hc hn => ?_) ?_
  · rw [fl c (by omega)] at hn ⊢
    dsimp only at hn ⊢
    rw [w_X12_dries_p2_s]
    unfold w_X12_dries_p2_b
    rw [ix64, nI_clamp (show 64 + c < 2 ^ 31 by omega), am_s_same, setW_at hc, dryW_at, nI_1]
    have v : vp_in (nI (64 + c)) 1635 := vp_in_nI (by omega) (by omega)
    refine ⟨fun z => absurd z (nI_ge (b := 64) hc (by omega)), fun _ => ⟨v, fun z => ⟨v, v, ?_⟩, fun z => ?_⟩⟩
    · rw [if_neg z] at hn
      exact hn
    · rw [if_pos z] at hn
      exact hn
  · rw [fl 64 (Nat.le_refl _)]
    rw [w_X12_dries_p2_s]
    unfold w_X12_dries_p2_b
    exact ⟨fun _ => h, fun z => absurd (Int32.le_refl _) z⟩
end LD
