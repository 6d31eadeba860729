/-! ===== facts of a cell, both sides ===== -/
def fvV (bk : Bk) (cn : Cn) (now : Nat) (wd : Nat → Nat) (f : Nat → Int32) (c : Nat) (a : Nat) : Int32 :=
  if a = 0 then weedV wd f c else if a = 1 then f (64 + c) else if a = 2 then f (128 + c) else if a = 3 then f (384 + c) else if a = 4 then f (256 + c) else if a = 5 then f (320 + c) else if a = 6 then nI (nrN bk now cn.r) else f (448 + c)
section FA
variable {M M1 : am_I} {N N1 : am_N} {bk bk' : Bk} {cn : Cn} {but : Nat → Nat → Prop} {f : Nat → Int32} {fe lo : Int64} {W c now K : Nat} {wd : Nat → Nat} {post : am_I → am_N → Prop} {postI : Int32 → am_I → am_N → Prop}
theorem i64 (x : Int32) : x.toInt64 = iL x.toInt := by
  rw [← Int64.toInt_inj, Int32.toInt_toInt64, iL_t]
  have h1 := Int32.le_toInt x
  have h2 := Int32.toInt_lt x
  exact ⟨by omega, by omega⟩
theorem iI_self (x : Int32) : iI x.toInt = x := Int32.ofInt_toInt x
theorem iL_div2 {l r : Int} (hl : big l) (hr : big r) : iL l / iL r = iL (l.tdiv r) := by
  have hd : big (l.tdiv r) := by
    have h1 : l.natAbs ≤ 4000000000000000000 := by have := hl.1; have := hl.2; omega
    have h2 : (l.tdiv r).natAbs ≤ 4000000000000000000 := by
      rw [Int.natAbs_tdiv]
      exact Nat.le_trans (Nat.div_le_self _ _) h1
    generalize l.tdiv r = x at h2
    exact ⟨by omega, by omega⟩
  rw [← Int64.toInt_inj, Int64.toInt_div_of_ne_left, iL_t hl, iL_t hr, iL_t hd]
  intro h
  have h2 := congrArg Int64.toInt h
  rw [iL_t hl] at h2
  have h3 : Int64.minValue.toInt = -9223372036854775808 := by decide
  rw [h3] at h2
  have := hl.1
  omega
theorem weedF_b : ∀ k, ∃ v : Int, weedF wd f c k = iL v ∧ v.natAbs ≤ 2147483648 * k
  | 0 => ⟨0, rfl, by omega⟩
  | k + 1 => by
    obtain ⟨v, h1, h2⟩ := weedF_b k
    unfold weedF
    by_cases e : wd k = 1
    · rw [if_pos e, h1, i64, iL_add]
      have g1 := Int32.le_toInt (f (640 + 5 * c + k))
      have g2 := Int32.toInt_lt (f (640 + 5 * c + k))
      exact ⟨_, rfl, by omega⟩
    · rw [if_neg e]; exact ⟨v, h1, by omega⟩
theorem weedV_b : ∃ v : Int, weedV wd f c = iI v ∧ sml v := by
  obtain ⟨v, h1, h2⟩ := weedF_b (wd := wd) (f := f) (c := c) 5
  have e7 : (10000000 : Int64) = iL 10000000 := by decide
  refine ⟨v.tdiv 10000000, ?_, ?_⟩
  · unfold weedV
    rw [h1, e7, iL_div2 ⟨by omega, by omega⟩ ⟨by decide, by decide⟩, iL_i]
  · have h3 : (v.tdiv 10000000).natAbs ≤ 1000000000 := by
      rw [Int.natAbs_tdiv]
      show v.natAbs / 10000000 ≤ 1000000000
      omega
    generalize v.tdiv 10000000 = x at h3
    exact ⟨by omega, by omega⟩
theorem sml_nI {t : Nat} (h : t ≤ 1000000000) : sml (nI t).toInt := by
  rw [nI_toInt (by omega)]
  exact ⟨by omega, by omega⟩
theorem fv_sml (G : GoodF W cn f) (hW : W ≤ 1000000000) (P : PB K f) (hK : K ≤ 1000000000) (hc : c < 64) : ∀ a, a < 8 → sml (fvV bk cn now wd f c a).toInt := by
  intro a ha
  have : a = 0 ∨ a = 1 ∨ a = 2 ∨ a = 3 ∨ a = 4 ∨ a = 5 ∨ a = 6 ∨ a = 7 := by omega
  rcases this with e | e | e | e | e | e | e | e <;> subst e
  · show sml (weedV wd f c).toInt
    obtain ⟨v, h1, h2⟩ := weedV_b (wd := wd) (f := f) (c := c)
    rw [h1, iI_t h2]; exact h2
  · show sml (f (64 + c)).toInt
    obtain ⟨t, h1, h2⟩ := G.g.we
    have h3 : t c ≤ sumN t 64 := sumN_ge t hc
    rw [h1 c hc]
    exact sml_nI (by omega)
  · show sml (f (128 + c)).toInt
    obtain ⟨t, h1, h2⟩ := G.g.pr c hc
    rw [h2]; exact sml_nI (by omega)
  · show sml (f (384 + c)).toInt
    obtain ⟨t, h1, h2⟩ := P (384 + c) (by omega)
    rw [h2]; exact sml_nI (by omega)
  · show sml (f (256 + c)).toInt
    obtain ⟨t, h1, h2⟩ := P (256 + c) (by omega)
    rw [h2]; exact sml_nI (by omega)
  · show sml (f (320 + c)).toInt
    rcases G.p.il c hc with e | e <;> rw [e] <;> exact ⟨by decide, by decide⟩
  · show sml (nI (nrN bk now cn.r)).toInt
    have := nrN_le (bk := bk) (now := now) cn.r
    exact sml_nI (by omega)
  · show sml (f (448 + c)).toInt
    obtain ⟨t, h1, h2⟩ := P (448 + c) (by omega)
    rw [h2]; exact sml_nI (by omega)
theorem c_facts (S : StC 0 bk' cn cn but M N f fe lo) (B : BkC M bk cn cn) (D : WdOK M cn wd) (G : GoodF W cn f) (hB : BkGood bk cn) (hc : c < 64) (hs : f (192 + c) = 1) (en : f 1624 = nI now) (hn : now ≤ 719) (h : ∀ M1, (∀ c : am_C, c ≠ (0, 0, 16) → M1 c = M c) → (∀ a, a < 8 → M1 (0, 0, 16) a = fvV bk cn now wd f c a) → post M1 N) : w_X10_gatherFacts 0 (nI c) M N post := by
  have vc : vp_in (nI c) 64 := vp_in_nI hc (by omega)
  have u : ∀ (g : am_I) (i : Nat) (x : Int32) (c' : am_C), c' ≠ (0, 0, 16) → am_u g (0, 0, 16) i x c' = g c' := fun g i x c' q => am_u_o _ _ _ q
  have u3 : ∀ (g : am_I) (i : Nat) (x : Int32), am_u g (0, 0, 16) i x (1, 0, 3) = g (1, 0, 3) := fun g i x => u g i x _ (by simp)
  have u4 : ∀ (g : am_I) (i : Nat) (x : Int32), am_u g (0, 0, 16) i x (1, 0, 4) = g (1, 0, 4) := fun g i x => u g i x _ (by simp)
  have u7 : ∀ (g : am_I) (i : Nat) (x : Int32), am_u g (0, 0, 16) i x (1, 0, 7) = g (1, 0, 7) := fun g i x => u g i x _ (by simp)
  have u8 : ∀ (g : am_I) (i : Nat) (x : Int32), am_u g (0, 0, 16) i x (1, 0, 8) = g (1, 0, 8) := fun g i x => u g i x _ (by simp)
  unfold w_X10_gatherFacts w_X11_isCell
  refine ⟨fun z => absurd z (nI_pos (by omega)), fun _ => ⟨fun z => absurd z (nI_ge (b := 64) hc (by omega)), fun _ => ⟨fun z => absurd z (by decide), fun _ => ⟨fun _ => c_weeds S D hc hs ?_, fun z => absurd (by decide) z⟩⟩⟩⟩
  refine ⟨vc, vc, vc, vc, ?_⟩
  rw [nI_clamp (show c < 2 ^ 31 by omega)]
  simp only [u3, u4, u7, u8]
  rw [S.w.g.we c hc, S.w.g.pr c hc, (S.w.p.sz c hc hs).2.1, (S.w.p.sz c hc hs).1]
  have hA : ∀ c' : am_C, c' ≠ (0, 0, 16) → am_u (am_u (am_u (am_u (am_u M (0, 0, 16) 0 (weedV wd f c)) (0, 0, 16) 1 (f (64 + c))) (0, 0, 16) 2 (f (128 + c))) (0, 0, 16) 3 (f (384 + c))) (0, 0, 16) 4 (f (256 + c)) c' = M c' := fun c' q => by
    rw [u _ _ _ _ q, u _ _ _ _ q, u _ _ _ _ q, u _ _ _ _ q, u _ _ _ _ q]
  have hV : ∀ a, a < 5 → am_u (am_u (am_u (am_u (am_u M (0, 0, 16) 0 (weedV wd f c)) (0, 0, 16) 1 (f (64 + c))) (0, 0, 16) 2 (f (128 + c))) (0, 0, 16) 3 (f (384 + c))) (0, 0, 16) 4 (f (256 + c)) (0, 0, 16) a = fvV bk cn now wd f c a := fun a ha => by
    have : a = 0 ∨ a = 1 ∨ a = 2 ∨ a = 3 ∨ a = 4 := by omega
    rcases this with e | e | e | e | e <;> subst e
    · rw [am_u_c, pk_un (by decide), am_u_c, pk_un (by decide), am_u_c, pk_un (by decide), am_u_c, pk_un (by decide), am_u_c, pk_us]; rfl
    · rw [am_u_c, pk_un (by decide), am_u_c, pk_un (by decide), am_u_c, pk_un (by decide), am_u_c, pk_us]; rfl
    · rw [am_u_c, pk_un (by decide), am_u_c, pk_un (by decide), am_u_c, pk_us]; rfl
    · rw [am_u_c, pk_un (by decide), am_u_c, pk_us]; rfl
    · rw [am_u_c, pk_us]; rfl
  generalize am_u (am_u (am_u (am_u (am_u M (0, 0, 16) 0 (weedV wd f c)) (0, 0, 16) 1 (f (64 + c))) (0, 0, 16) 2 (f (128 + c))) (0, 0, 16) 3 (f (384 + c))) (0, 0, 16) 4 (f (256 + c)) = A at hA hV ⊢
  have main : ∀ v : Int32, v = f (320 + c) → w_X10_gatherFacts_p92 0 post (nI c) v 5 A N := by
    intro v hv
    unfold w_X10_gatherFacts_p92
    refine ⟨vp_in_nI (n := 5) (by decide) (by decide), ?_⟩
    have e5 : (5 : Int32).toNatClampNeg = 5 := by decide
    rw [e5]
    have h0 : am_u A (0, 0, 16) 5 v (1, 0, 0) 8 = nI now := by
      rw [u _ _ _ _ (by simp), hA _ (by simp), S.w.s.now]; exact en
    rw [h0]
    have hA2 : ∀ c' : am_C, c' ≠ (0, 0, 16) → am_u A (0, 0, 16) 5 v c' = M c' := fun c' q => by rw [u _ _ _ _ q, hA c' q]
    refine c_hours (bk := bk) (cn := cn) (now := now) (B.t1.cg (hA2 _ (by simp))) (fun r hr => ?_) (fun r hr => ⟨(hB.rM r hr).1, (hB.rM r hr).2.1⟩) S.fb.1 hn ⟨vc, ?_⟩
    · rw [hA2 _ (by simp)]
      exact ⟨(B.r r hr).1, (B.r r hr).2.1⟩
    · rw [nI_clamp (show c < 2 ^ 31 by omega), u _ _ _ _ (by simp), hA2 _ (by simp), (S.w.p.sz c hc hs).2.2]
      refine h _ (fun c' q => by rw [u _ _ _ _ q, u _ _ _ _ q, hA2 c' q]) (fun a ha => ?_)
      by_cases e7 : a = 7
      · subst e7; rw [am_u_c, pk_us]; rfl
      by_cases e6 : a = 6
      · subst e6; rw [am_u_c, pk_un (by decide), am_u_c, pk_us]; rfl
      by_cases e5 : a = 5
      · subst e5; rw [am_u_c, pk_un (by decide), am_u_c, pk_un (by decide), am_u_c, pk_us, hv]; rfl
      · rw [am_u_c, pk_un e7, am_u_c, pk_un e6, am_u_c, pk_un e5]
        exact hV a (by omega)
  have il := S.w.p.il c hc
  refine sp_X6_isIll hc (fun z => ⟨fun w => absurd w (by decide), fun _ => main 1 (il.mp z).2.symm⟩) (fun z => ⟨fun _ => main 0 ?_, fun w => absurd rfl w⟩)
  rcases G.p.il c hc with e | e
  · exact e.symm
  · have := il.mpr ⟨hs, e⟩
    rw [z] at this
    exact absurd this (by decide)
end FA
