/-! ===== questions about cells, carts and works: both sides ===== -/
def WdOK (M : am_I) (full : Cn) (wd : Nat → Nat) : Prop := (∀ k, k < full.k → M (2, 4, 1) (k * 6 + 0) = nI (wd k)) ∧ (∀ k, k < 5 → M (3, 0, 22) k = nI (wd k)) ∧ (∀ k, full.k ≤ k → wd k = 0) ∧ (∀ k, wd k ≤ 1)
theorem WdOK.c {M : am_I} {full : Cn} {wd : Nat → Nat} (h : WdOK M full wd) : ∀ k, k < full.k → M (2, 4, 1) (k * 6 + 0) = nI (wd k) := h.1
theorem WdOK.m {M : am_I} {full : Cn} {wd : Nat → Nat} (h : WdOK M full wd) : ∀ k, k < 5 → M (3, 0, 22) k = nI (wd k) := h.2.1
theorem WdOK.z {M : am_I} {full : Cn} {wd : Nat → Nat} (h : WdOK M full wd) : ∀ k, full.k ≤ k → wd k = 0 := h.2.2.1
theorem WdOK.b {M : am_I} {full : Cn} {wd : Nat → Nat} (h : WdOK M full wd) : ∀ k, wd k ≤ 1 := h.2.2.2
def weedF (wd : Nat → Nat) (f : Nat → Int32) (c : Nat) : Nat → Int64
  | 0 => 0
  | k + 1 => if wd k = 1 then weedF wd f c k + (f (640 + 5 * c + k)).toInt64 else weedF wd f c k
def weedV (wd : Nat → Nat) (f : Nat → Int32) (c : Nat) : Int32 := (weedF wd f c 5 / 10000000).toInt32
def cellV (wd : Nat → Nat) (f : Nat → Int32) (c : Nat) (a : Int32) : Int32 :=
  if a = 0 then f c else if a = 1 then f (64 + c) else if a = 2 then f (128 + c) else if a = 3 then f (192 + c)
  else if a = 4 then (if f (192 + c) = 1 then f (256 + c) else 0) else if a = 5 then (if f (192 + c) = 1 then f (320 + c) else 0)
  else if a = 6 then (if f (192 + c) = 1 then f (384 + c) else 0) else if a = 7 then (if f (192 + c) = 1 then f (448 + c) else 0)
  else if a = 8 then f (512 + c) else if a = 9 then (if f (192 + c) = 1 then weedV wd f c else 0) else if a = 10 then (if f (192 + c) = 1 then 0 else f (576 + c)) else -1
section QU
variable {M : am_I} {N : am_N} {b : Nat} {bk : Bk} {cn full : Cn} {but : Nat → Nat → Prop} {f : Nat → Int32} {fe lo : Int64} {W q c w : Nat} {wd : Nat → Nat} {a a1 a2 a3 : Int32} {post : Int32 → am_I → am_N → Prop} {postL : Int64 → am_I → am_N → Prop}
theorem c_shareOf {k : Nat} (hc : c < 64) (hk : k < 5) (h : post (M (1, b, 12) (5 * c + k)) M N) : w_X6_shareOf b (nI c) (nI k) M N post := by
  have e : nI c * 5 + nI k = nI (5 * c + k) := by rw [show nI c * 5 = nI (c * 5) from pk_mul c 5, nI_add, Nat.mul_comm]
  unfold w_X6_shareOf
  refine eq_X11_isCell.mpr ?_
  rw [am_bt ⟨nI_pos' (by omega), nI_le (b := 63) (by omega) (by omega)⟩]
  refine ⟨fun z => absurd z (by decide), fun _ => eq_X11_within.mpr ?_⟩
  rw [am_bt ⟨nI_pos' (by omega), nI_le (b := 4) (by omega) (by omega)⟩, e, nI_clamp (by omega)]
  exact ⟨fun z => absurd z (by decide), fun _ => ⟨vp_in_nI (by omega) (by omega), h⟩⟩
theorem c_weeds (S : StC b bk cn full but M N f fe lo) (D : WdOK M full wd) (hc : c < 64) (hs : f (192 + c) = 1) (h : post (weedV wd f c) M N) : w_X6_weedHundredths b (nI c) M N post := by
  have h5 := S.fb.2.2.2.2
  unfold w_X6_weedHundredths
  refine ⟨6, ?_⟩
  have key : ∀ (j k : Nat), k + j = 5 → w_X6_weedHundredths_p5 b post (j + 1) (nI c) (weedF wd f c k) (nI k) M N := by
    intro j
    induction j with
    | zero =>
      intro k hk
      have hk' : k = 5 := by omega
      subst hk'
      rw [w_X6_weedHundredths_p5_s]
      unfold w_X6_weedHundredths_p5_b
      exact ⟨fun _ => h, fun z => absurd (nI_le (a := 5) (b := 5) (by omega) (by omega)) z⟩
    | succ j ih =>
      intro k hk
      have ih' := ih (k + 1) (by omega)
      unfold weedF at ih'
      rw [w_X6_weedHundredths_p5_s]
      unfold w_X6_weedHundredths_p5_b
      rw [nI_1]
      refine ⟨fun z => absurd z (nI_ge (b := 5) (by omega) (by omega)), fun _ => ?_⟩
      have hb := D.b k
      by_cases hkf : k < full.k
      · refine sp_at (w := 6) (c := 0) S.k.t4 hkf (by omega) ?_
        rw [D.c k hkf]
        have e1 : nI (wd k) = 1 ↔ wd k = 1 := nI_eq (b := 1) (by omega) (by omega)
        rw [e1]
        refine ⟨fun z => ?_, fun z => c_shareOf hc (by omega) (fun v ev => ?_)⟩
        · rw [if_neg z] at ih'
          exact ih'
        · subst ev
          rw [if_pos z] at ih'
          rw [S.w.p.sh c hc hs k (by omega)]
          exact ih'
      · refine sp_at_out S.k.t4 (by omega) (by omega) ⟨fun _ => ?_, fun z => absurd z (by decide)⟩
        rw [if_neg (by rw [D.z k (by omega)]; decide)] at ih'
        exact ih'
  exact key 5 0 (by omega)
theorem r_weeds (S : StM bk cn but M N f fe lo) (D : WdOK M full wd) (hc : c < 64) (h : post (weedV wd f c) M N) : w_X12_weeds (nI c) M N post := by
  unfold w_X12_weeds
  refine ⟨6, ?_⟩
  have key : ∀ (j k : Nat), k + j = 5 → w_X12_weeds_p5 post (j + 1) (nI c) (weedF wd f c k) (nI k) M N := by
    intro j
    induction j with
    | zero =>
      intro k hk
      have hk' : k = 5 := by omega
      subst hk'
      rw [w_X12_weeds_p5_s]
      unfold w_X12_weeds_p5_b
      exact ⟨fun _ => h, fun z => absurd (nI_le (a := 5) (b := 5) (by omega) (by omega)) z⟩
    | succ j ih =>
      intro k hk
      have ih' := ih (k + 1) (by omega)
      unfold weedF at ih'
      have e : 640 + 5 * nI c + nI k = nI (640 + 5 * c + k) := by rw [xm5, ix640, nI_add]
      rw [w_X12_weeds_p5_s]
      unfold w_X12_weeds_p5_b
      rw [nI_1, nI_clamp (show k < 2 ^ 31 by omega), D.m k (by omega), e, nI_clamp (show 640 + 5 * c + k < 2 ^ 31 by omega), S.f]
      have hb := D.b k
      have e1 : nI (wd k) = 0 ↔ wd k = 0 := nI_eq (b := 0) (by omega) (by omega)
      rw [e1]
      refine ⟨fun z => absurd z (nI_ge (b := 5) (by omega) (by omega)), fun _ => ⟨vp_in_nI (by omega) (by omega), fun z => ?_, fun z => ⟨vp_in_nI (by omega) (by omega), fun v ev => ?_⟩⟩⟩
      · rw [if_neg (by omega)] at ih'
        exact ih'
      · subst ev
        rw [if_pos (by omega)] at ih'
        exact ih'
  exact key 5 0 (by omega)
theorem c_fact (S : StC b bk cn full but M N f fe lo) (G : GoodF W cn f) (D : WdOK M full wd) (hc : c < 64) (h : post (cellV wd f c a) M N) : w_X10_factOfCell b (nI c) a M N post := by
  have v : vp_in (nI c) 64 := vp_in_nI hc (by omega)
  unfold w_X10_factOfCell
  refine eq_X11_isCell.mpr ?_
  rw [am_bt ⟨nI_pos' (by omega), nI_le (b := 63) (by omega) (by omega)⟩]
  refine ⟨fun _ => ?_, fun z => absurd z (by decide)⟩
  have n0 : ∀ x y : Int32, ¬ x = y → a = x → ¬ a = y := fun x y h1 h2 h3 => h1 (h2.symm.trans h3)
  have main : ∀ r : Int32, (f (192 + c) = 1 → r = 1) → (¬ f (192 + c) = 1 → r = 0) → ((a = 0 → vp_in (nI c) 64 ∧ post (M (1, b, 2) (nI c).toNatClampNeg) M N) ∧ (a = 1 → vp_in (nI c) 64 ∧ post (M (1, b, 3) (nI c).toNatClampNeg) M N) ∧ (a = 2 → vp_in (nI c) 64 ∧ post (M (1, b, 4) (nI c).toNatClampNeg) M N) ∧ (a = 3 → ((r = 0 → post 0 M N) ∧ (¬ r = 0 → post 1 M N))) ∧ (a = 4 → ((r = 0 → post 0 M N) ∧ (¬ r = 0 → vp_in (nI c) 64 ∧ post (M (1, b, 7) (nI c).toNatClampNeg) M N))) ∧ (a = 5 → w_X6_isIll b (nI c) M N (fun zr7 zM8 zN9 => ((zr7 = 0 → post 0 zM8 zN9) ∧ (¬ zr7 = 0 → post 1 zM8 zN9)))) ∧ (a = 6 → ((r = 0 → post 0 M N) ∧ (¬ r = 0 → vp_in (nI c) 64 ∧ post (M (1, b, 8) (nI c).toNatClampNeg) M N))) ∧ (a = 7 → ((r = 0 → post 0 M N) ∧ (¬ r = 0 → vp_in (nI c) 64 ∧ post (M (1, b, 9) (nI c).toNatClampNeg) M N))) ∧ (a = 8 → w_X6_marksOn b (nI c) M N (fun zr10 zM11 zN12 => post zr10 zM11 zN12)) ∧ (a = 9 → ((r = 0 → post 0 M N) ∧ (¬ r = 0 → w_X6_weedHundredths b (nI c) M N (fun zr13 zM14 zN15 => post zr13 zM14 zN15)))) ∧ (a = 10 → vp_in (nI c) 64 ∧ post (M (1, b, 11) (nI c).toNatClampNeg) M N) ∧ (¬ a = 0 → ¬ a = 1 → ¬ a = 2 → ¬ a = 3 → ¬ a = 4 → ¬ a = 5 → ¬ a = 6 → ¬ a = 7 → ¬ a = 8 → ¬ a = 9 → ¬ a = 10 → post (-1) M N)) := by
    intro r r1 r0
    rw [nI_clamp (show c < 2 ^ 31 by omega), S.w.g.hg c hc, S.w.g.we c hc, S.w.g.pr c hc, S.w.p.ba c hc]
    unfold cellV at h
    have st := G.p.st c hc
    refine ⟨fun e => ⟨v, ?_⟩, fun e => ⟨v, ?_⟩, fun e => ⟨v, ?_⟩, fun e => ?_, fun e => ?_, fun e => ?_, fun e => ?_, fun e => ?_, fun e => ?_, fun e => ?_, fun e => ⟨v, ?_⟩, fun n0 n1 n2 n3 n4 n5 n6 n7 n8 n9 n10 => ?_⟩
    · rw [if_pos e] at h; exact h
    · subst e; exact h
    · subst e; exact h
    · subst e
      have h : post (f (192 + c)) M N := h
      by_cases z : f (192 + c) = 1
      · rw [r1 z]; rw [z] at h; exact ⟨fun y => absurd y (by decide), fun _ => h⟩
      · rw [r0 z]; rw [st.resolve_right z] at h; exact ⟨fun _ => h, fun y => absurd rfl y⟩
    · subst e
      have h : post (if f (192 + c) = 1 then f (256 + c) else 0) M N := h
      by_cases z : f (192 + c) = 1
      · rw [r1 z, (S.w.p.sz c hc z).1]; rw [if_pos z] at h; exact ⟨fun y => absurd y (by decide), fun _ => ⟨v, h⟩⟩
      · rw [r0 z]; rw [if_neg z] at h; exact ⟨fun _ => h, fun y => absurd rfl y⟩
    · subst e
      have h : post (if f (192 + c) = 1 then f (320 + c) else 0) M N := h
      have hil := S.w.p.il c hc
      refine sp_X6_isIll hc (fun y => ⟨fun y => absurd y (by decide), fun _ => ?_⟩) (fun y => ⟨fun _ => ?_, fun y => absurd rfl y⟩)
      · rw [if_pos (hil.mp y).1, (hil.mp y).2] at h; exact h
      · by_cases z : f (192 + c) = 1
        · have z2 : ¬ f (320 + c) = 1 := fun z2 => by rw [hil.mpr ⟨z, z2⟩] at y; cases y
          rw [if_pos z, (G.p.il c hc).resolve_right z2] at h; exact h
        · rw [if_neg z] at h; exact h
    · subst e
      have h : post (if f (192 + c) = 1 then f (384 + c) else 0) M N := h
      by_cases z : f (192 + c) = 1
      · rw [r1 z, (S.w.p.sz c hc z).2.1]; rw [if_pos z] at h; exact ⟨fun y => absurd y (by decide), fun _ => ⟨v, h⟩⟩
      · rw [r0 z]; rw [if_neg z] at h; exact ⟨fun _ => h, fun y => absurd rfl y⟩
    · subst e
      have h : post (if f (192 + c) = 1 then f (448 + c) else 0) M N := h
      by_cases z : f (192 + c) = 1
      · rw [r1 z, (S.w.p.sz c hc z).2.2]; rw [if_pos z] at h; exact ⟨fun y => absurd y (by decide), fun _ => ⟨v, h⟩⟩
      · rw [r0 z]; rw [if_neg z] at h; exact ⟨fun _ => h, fun y => absurd rfl y⟩
    · subst e; exact c_marksOn S hc h
    · subst e
      have h : post (if f (192 + c) = 1 then weedV wd f c else 0) M N := h
      by_cases z : f (192 + c) = 1
      · rw [r1 z]; rw [if_pos z] at h; exact ⟨fun y => absurd y (by decide), fun _ => c_weeds S D hc z h⟩
      · rw [r0 z]; rw [if_neg z] at h; exact ⟨fun _ => h, fun y => absurd rfl y⟩
    · subst e; exact h
    · rw [if_neg n0, if_neg n1, if_neg n2, if_neg n3, if_neg n4, if_neg n5, if_neg n6, if_neg n7, if_neg n8, if_neg n9, if_neg n10] at h; exact h
  exact sp_X6_standsOn hc (fun z => main 1 (fun _ => rfl) (fun y => absurd ((S.w.p.st c hc).mp z) y)) (fun z => main 0 (fun y => absurd y ((tb_st S hc).mp z)) (fun _ => rfl))
theorem r_cellOf (S : StM bk cn but M N f fe lo) (D : WdOK M full wd) (hc : c < 64) (h : post (cellV wd f c a) M N) : w_X12_cellOf (nI c) a M N post := by
  have i1 : (192 + nI c).toNatClampNeg = 192 + c := by rw [ix192, nI_clamp (by omega)]
  have v1 : vp_in (192 + nI c) 1635 := by rw [ix192]; exact vp_in_nI (by omega) (by omega)
  unfold w_X12_cellOf
  rw [i1, S.f]
  have main : ∀ r : Int32, (f (192 + c) = 1 → r = 1) → (¬ f (192 + c) = 1 → r = 0) → w_X12_cellOf_p19 post (nI c) a r M N := by
    intro r r1 r0
    have j0 : (0 + nI c).toNatClampNeg = c := by rw [z_add, nI_clamp (by omega)]
    have u0 : vp_in (0 + nI c) 1635 := by rw [z_add]; exact vp_in_nI (by omega) (by omega)
    have j1 : (64 + nI c).toNatClampNeg = 64 + c := by rw [ix64, nI_clamp (by omega)]
    have u1 : vp_in (64 + nI c) 1635 := by rw [ix64]; exact vp_in_nI (by omega) (by omega)
    have j2 : (128 + nI c).toNatClampNeg = 128 + c := by rw [ix128, nI_clamp (by omega)]
    have u2 : vp_in (128 + nI c) 1635 := by rw [ix128]; exact vp_in_nI (by omega) (by omega)
    have j4 : (256 + nI c).toNatClampNeg = 256 + c := by rw [ix256, nI_clamp (by omega)]
    have u4 : vp_in (256 + nI c) 1635 := by rw [ix256]; exact vp_in_nI (by omega) (by omega)
    have j5 : (320 + nI c).toNatClampNeg = 320 + c := by rw [ix320, nI_clamp (by omega)]
    have u5 : vp_in (320 + nI c) 1635 := by rw [ix320]; exact vp_in_nI (by omega) (by omega)
    have j6 : (384 + nI c).toNatClampNeg = 384 + c := by rw [ix384, nI_clamp (by omega)]
    have u6 : vp_in (384 + nI c) 1635 := by rw [ix384]; exact vp_in_nI (by omega) (by omega)
    have j7 : (448 + nI c).toNatClampNeg = 448 + c := by rw [ix448, nI_clamp (by omega)]
    have u7 : vp_in (448 + nI c) 1635 := by rw [ix448]; exact vp_in_nI (by omega) (by omega)
    have j8 : (512 + nI c).toNatClampNeg = 512 + c := by rw [ix512, nI_clamp (by omega)]
    have u8 : vp_in (512 + nI c) 1635 := by rw [ix512]; exact vp_in_nI (by omega) (by omega)
    have j9 : (576 + nI c).toNatClampNeg = 576 + c := by rw [ix576, nI_clamp (by omega)]
    have u9 : vp_in (576 + nI c) 1635 := by rw [ix576]; exact vp_in_nI (by omega) (by omega)
    unfold w_X12_cellOf_p19
    rw [j0, j1, j2, i1, j4, j5, j6, j7, j8, j9, S.f]
    unfold cellV at h
    have two : ∀ x : Int32, post (if f (192 + c) = 1 then x else 0) M N → ∀ P : Prop, (post x M N → P) → ((r = 0 → post 0 M N) ∧ (¬ r = 0 → P)) := by
      intro x hx P hP
      by_cases z : f (192 + c) = 1
      · rw [r1 z]; rw [if_pos z] at hx; exact ⟨fun y => absurd y (by decide), fun _ => hP hx⟩
      · rw [r0 z]; rw [if_neg z] at hx; exact ⟨fun _ => hx, fun y => absurd rfl y⟩
    refine ⟨fun e => ⟨u0, ?_⟩, fun e => ⟨u1, ?_⟩, fun e => ⟨u2, ?_⟩, fun e => ⟨v1, ?_⟩, fun e => ?_, fun e => ?_, fun e => ?_, fun e => ?_, fun e => ⟨u8, ?_⟩, fun e => ?_, fun e => ?_, fun n0 n1 n2 n3 n4 n5 n6 n7 n8 n9 n10 => ?_⟩
    · rw [if_pos e] at h; exact h
    · subst e; exact h
    · subst e; exact h
    · subst e; exact h
    · subst e; exact two _ h _ (fun y => ⟨u4, y⟩)
    · subst e; exact two _ h _ (fun y => ⟨u5, y⟩)
    · subst e; exact two _ h _ (fun y => ⟨u6, y⟩)
    · subst e; exact two _ h _ (fun y => ⟨u7, y⟩)
    · subst e; exact h
    · subst e; exact two _ h _ (fun y => r_weeds S D hc y)
    · subst e
      have h : post (if f (192 + c) = 1 then 0 else f (576 + c)) M N := h
      by_cases z : f (192 + c) = 1
      · rw [r1 z]; rw [if_pos z] at h; exact ⟨fun y => absurd y (by decide), fun _ => h⟩
      · rw [r0 z]; rw [if_neg z] at h; exact ⟨fun _ => ⟨u9, h⟩, fun y => absurd rfl y⟩
    · rw [if_neg n0, if_neg n1, if_neg n2, if_neg n3, if_neg n4, if_neg n5, if_neg n6, if_neg n7, if_neg n8, if_neg n9, if_neg n10] at h; exact h
  exact ⟨v1, fun z => main 0 (fun y => absurd y z) (fun _ => rfl), fun z => main 1 (fun _ => rfl) (fun y => absurd z y)⟩
end QU
