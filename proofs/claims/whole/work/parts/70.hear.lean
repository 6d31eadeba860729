/-! ===== what a row of the log does: the class ===== -/
section HE
variable {M M' : am_I} {N N' : am_N} {b : Nat} {bk : Bk} {cn full : Cn} {but : Nat → Nat → Prop} {f f' g : Nat → Int32} {fe lo : Int64} {W q w goal wh a bb c i : Nat} {post : am_I → am_N → Prop} {postI : Int32 → am_I → am_N → Prop} {x : Int32}
/-- a row of the class's log -/
def rowC (M : am_I) (n i wh a b c : Nat) : Prop := tabOK M 0 5 n ∧ i < n ∧ M (2, 0, 1) (i * 5 + 1) = nI wh ∧ (wh ≠ 6 → wh ≠ 7 → M (2, 0, 1) (i * 5 + 2) = nI a) ∧ M (2, 0, 1) (i * 5 + 3) = nI b ∧ M (2, 0, 1) (i * 5 + 4) = nI c
theorem RelW.kn {cn' : Cn} (R : RelW b cn but M N f fe lo) (hc : cn'.c = cn.c) (hw : cn'.w = cn.w) : RelW b cn' but M N f fe lo := by
  refine ⟨?_, ?_, ?_, ?_, ?_, ?_, ?_⟩
  · exact R.g
  · exact R.p
  · exact by rw [hc]; exact R.c
  · exact by rw [hw]; exact R.k
  · exact R.s
  · exact R.fe
  · exact R.lo
theorem RelW.hi (R : RelW b cn but M N f fe lo) (hcb : CnB cn) (hf : ∀ i, i < 1630 ∨ i = 1633 ∨ i = 1634 → f' i = f i) : RelW b cn but M N f' fe lo := by
  refine ⟨?_, ?_, ?_, ?_, ?_, ?_, ?_⟩
  · exact R.g.cg (fun i h1 => hf i (by omega))
  · exact R.p.cg (fun i h1 h2 => hf i (by omega)) (hf _ (by omega))
  · exact R.c.cg hcb.2.1 (fun i h1 h2 => hf i (by omega))
  · exact R.k.cg hcb.2.2.1 (fun i h1 h2 => hf i (by omega))
  · exact by
      refine ⟨fun i hi => ?_, ?_, ?_, ?_, R.s.but⟩
      · rw [hf _ (by omega)]; exact R.s.set i hi
      · rw [hf _ (by omega)]; exact R.s.now
      · rw [hf _ (by omega)]; exact R.s.kt
      · rw [hf _ (by omega)]; exact R.s.lt
  · exact R.fe
  · exact R.lo
theorem RelW.shape (R : RelW b cn but M N f fe lo) (hcb : CnB cn) (ha : a < 64) (x y : Int32) : RelW b cn but (am_u (am_u M (1, b, 2) a x) (1, b, 3) a y) N (upd (upd f a x) (64 + a) y) fe lo := by
  refine R.putG hcb (fun i hi => by rw [am_u_o _ _ _ (cell_ne (by omega)), am_u_o _ _ _ (cell_ne (by omega))]) (fun i hi => by rw [pk_un (by omega), pk_un (by omega)]) ?_
  rw [am_u_c, am_u_o _ _ _ (cell_ne (show 2 ≠ 3 by omega)), am_u_c, am_u_o _ _ _ (cell_ne (show 3 ≠ 2 by omega)), am_u_o _ _ _ (cell_ne (show 4 ≠ 3 by omega)), am_u_o _ _ _ (cell_ne (show 4 ≠ 2 by omega))]
  refine ⟨fun i hi => ?_, fun i hi => ?_, fun i hi => ?_⟩
  · by_cases e : i = a
    · subst e; rw [pk_us, pk_un (by omega), pk_us]
    · rw [pk_un e, pk_un (by omega), pk_un e]; exact R.g.hg i hi
  · by_cases e : i = a
    · subst e; rw [pk_us, pk_us]
    · rw [pk_un e, pk_un (by omega), pk_un (by omega)]; exact R.g.we i hi
  · rw [pk_un (by omega), pk_un (by omega)]; exact R.g.pr i hi
theorem RelW.adj (R : RelW b cn but M N f fe lo) (hcb : CnB cn) (ha : a < 4) (x : Int32) : RelW b cn but (am_u M (1, b, 22) a x) N (upd f (1626 + a) x) fe lo := by
  refine R.putS hcb (fun i h22 h0 => am_u_o M a x (cell_ne h22)) (fun i hi => pk_un (by omega)) ?_
  rw [am_u_c, am_u_o M a x (cell_ne (show 0 ≠ 22 by omega))]
  refine ⟨fun i hi => ?_, ?_, ?_, ?_, R.s.but⟩
  · by_cases e : i = a
    · subst e; rw [pk_us, pk_us]
    · rw [pk_un e, pk_un (by omega)]; exact R.s.set i hi
  · rw [pk_un (by omega)]; exact R.s.now
  · rw [pk_un (by omega)]; exact R.s.kt
  · rw [pk_un (by omega)]; exact R.s.lt
theorem RelW.lots (R : RelW b cn but M N f fe lo) (hcb : CnB cn) (x : Int32) : RelW b cn but (am_u M (1, b, 0) 11 x) N (upd f 1633 x) fe lo := by
  refine R.putS hcb (fun i h22 h0 => am_u_o M 11 x (cell_ne h0)) (fun i hi => pk_un (by omega)) ?_
  rw [am_u_c, am_u_o M 11 x (cell_ne (show 22 ≠ 0 by omega))]
  refine ⟨fun i hi => ?_, ?_, ?_, ?_, fun k i hk hi => ?_⟩
  · rw [pk_un (by omega)]; exact R.s.set i hi
  · rw [pk_un (by decide), pk_un (by decide)]; exact R.s.now
  · rw [pk_un (by decide), pk_un (by decide)]; exact R.s.kt
  · rw [pk_us, pk_us]
  · rw [pk_un (by decide), pk_un (by decide)]; exact R.s.but k i hk hi
theorem RelW.kinds (R : RelW b cn but M N f fe lo) (hcb : CnB cn) (x : Int32) : RelW b cn but (am_u M (1, b, 0) 10 x) N (upd f 1634 x) fe lo := by
  refine R.putS hcb (fun i h22 h0 => am_u_o M 10 x (cell_ne h0)) (fun i hi => pk_un (by omega)) ?_
  rw [am_u_c, am_u_o M 10 x (cell_ne (show 22 ≠ 0 by omega))]
  refine ⟨fun i hi => ?_, ?_, ?_, ?_, fun k i hk hi => ?_⟩
  · rw [pk_un (by omega)]; exact R.s.set i hi
  · rw [pk_un (by decide), pk_un (by decide)]; exact R.s.now
  · rw [pk_us, pk_us]
  · rw [pk_un (by decide), pk_un (by decide)]; exact R.s.lt
  · rw [pk_un (by decide), pk_un (by decide)]; exact R.s.but k i hk hi
theorem RelW.heard (R : RelW b cn but M N f fe lo) (hcb : CnB cn) (x : Int32) : RelW b cn but (am_u M (1, b, 0) 9 x) N f fe lo := by
  refine R.putS hcb (fun i h22 h0 => am_u_o M 9 x (cell_ne h0)) (fun i hi => rfl) ?_
  rw [am_u_c, am_u_o M 9 x (cell_ne (show 22 ≠ 0 by omega))]
  refine ⟨R.s.set, ?_, ?_, ?_, fun k i hk hi => ?_⟩
  · rw [pk_un (by decide)]; exact R.s.now
  · rw [pk_un (by decide)]; exact R.s.kt
  · rw [pk_un (by decide)]; exact R.s.lt
  · rw [pk_un (by decide), pk_un (by decide)]; exact R.s.but k i hk hi
/-- a cart comes -/
theorem RC.come {pl po dg ta : Nat → Int32} {mp : Nat → Int64} {nc : Nat} (R : RC nc but pl po dg ta mp f) (h8 : nc < 8) (hd : f (976 + nc) = 0) (hm : ∀ c, c < 64 → f (992 + 64 * nc + c) = 0) (hnb : ¬ but 1 nc) : RC (nc + 1) but (upd pl nc (nI (bk.cH nc))) (upd po nc (nI (bk.cU nc))) (upd dg nc 0) ta mp (comesF bk f nc) := by
  have ho : ∀ i, i ≠ 960 + nc → i ≠ 968 + nc → i ≠ 984 + nc → i ≠ 1631 → comesF bk f nc i = f i := fun i h1 h2 h3 h4 => by
    unfold comesF
    rw [pk_un h4, pk_un h3, pk_un h2, pk_un h1]
  obtain ⟨hta, hmp⟩ := R.new nc h8 (Nat.le_refl _)
  refine ⟨fun q hq hb => ?_, fun q hq hb i hi => ?_, fun q hq h => ?_, fun q hq h => R.new q hq (by omega)⟩
  · by_cases e : q = nc
    · subst e
      have h1 : comesF bk f q (960 + q) = nI (bk.cH q) := by unfold comesF; rw [pk_un (by omega), pk_un (by omega), pk_un (by omega), pk_us]
      have h2 : comesF bk f q (968 + q) = nI (bk.cU q) := by unfold comesF; rw [pk_un (by omega), pk_un (by omega), pk_us]
      have h3 : comesF bk f q (984 + q) = -1 := by unfold comesF; rw [pk_un (by omega), pk_us]
      rw [pk_us, pk_us, pk_us, h1, h2, h3, ho _ (by omega) (by omega) (by omega) (by omega)]
      exact ⟨rfl, rfl, hd.symm, hta⟩
    · rw [pk_un e, pk_un e, pk_un e, ho _ (by omega) (by omega) (by omega) (by omega), ho _ (by omega) (by omega) (by omega) (by omega), ho _ (by omega) (by omega) (by omega) (by omega), ho _ (by omega) (by omega) (by omega) (by omega)]
      exact R.on q (by omega) hb
  · rw [ho _ (by omega) (by omega) (by omega) (by omega)]
    by_cases e : q = nc
    · subst e
      rw [hmp, tb_0, hm i hi]
      exact ⟨fun z => absurd z (by decide), fun z => absurd z (by decide)⟩
    · exact R.mp q (by omega) hb i hi
  · have e : q ≠ nc := fun e => by
      subst e
      cases h with
      | inl h => omega
      | inr h => exact hnb h
    rw [pk_un e]
    exact R.off q hq (by
      cases h with
      | inl h => exact Or.inl (by omega)
      | inr h => exact Or.inr h)
theorem RC.come0 {pl po dg ta : Nat → Int32} {mp : Nat → Int64} {nc : Nat} (R : RC nc but pl po dg ta mp f) (h8 : nc < 8) (hb : but 1 nc) : RC (nc + 1) but pl po dg ta mp (comesF bk f nc) := by
  have ho : ∀ i, i ≠ 960 + nc → i ≠ 968 + nc → i ≠ 984 + nc → i ≠ 1631 → comesF bk f nc i = f i := fun i h1 h2 h3 h4 => by
    unfold comesF
    rw [pk_un h4, pk_un h3, pk_un h2, pk_un h1]
  refine ⟨fun q hq hn => ?_, fun q hq hn i hi => ?_, fun q hq h => R.off q hq ?_, fun q hq h => R.new q hq (by omega)⟩
  · have e : q ≠ nc := fun e => hn (e ▸ hb)
    rw [ho _ (by omega) (by omega) (by omega) (by omega), ho _ (by omega) (by omega) (by omega) (by omega), ho _ (by omega) (by omega) (by omega) (by omega), ho _ (by omega) (by omega) (by omega) (by omega)]
    exact R.on q (by omega) hn
  · have e : q ≠ nc := fun e => hn (e ▸ hb)
    rw [ho _ (by omega) (by omega) (by omega) (by omega)]
    exact R.mp q (by omega) hn i hi
  · cases h with
    | inl h => exact Or.inl (by omega)
    | inr h => exact Or.inr h
theorem RelW.putC2 {cn' : Cn} (R : RelW b cn but M N f fe lo) (hcb : CnB cn) (hw : cn'.w = cn.w) (hM : ∀ i, i < 15 ∨ 19 < i → M' (1, b, i) = M (1, b, i)) (hN : ∀ i, i = 1 ∨ i = 6 → N' (1, b, i) = N (1, b, i)) (hf : ∀ i, i < 960 ∨ 1504 ≤ i → i ≠ 1631 → f' i = f i) (h : RC cn'.c but (M' (1, b, 15)) (M' (1, b, 16)) (M' (1, b, 17)) (M' (1, b, 18)) (N' (1, b, 19)) f') : RelW b cn' but M' N' f' fe lo := by
  refine ⟨?_, ?_, ?_, ?_, ?_, ?_, ?_⟩
  · exact by
      rw [hM 2 (by omega), hM 3 (by omega), hM 4 (by omega)]
      exact R.g.cg (fun i h1 => hf i (by omega) (by omega))
  · exact by
      rw [hM 6 (by omega), hM 7 (by omega), hM 8 (by omega), hM 9 (by omega), hM 10 (by omega), hM 11 (by omega), hM 12 (by omega), hN 6 (by omega)]
      exact R.p.cg (fun i h1 h2 => hf i (by omega) (by omega)) (hf _ (by omega) (by omega))
  · exact h
  · exact by
      rw [hM 20 (by omega), hM 21 (by omega), hw]
      exact R.k.cg hcb.2.2.1 (fun i h1 h2 => hf i (by omega) (by omega))
  · exact by
      rw [hM 22 (by omega), hM 0 (by omega)]
      refine ⟨fun i hi => ?_, ?_, ?_, ?_, R.s.but⟩
      · rw [hf _ (by omega) (by omega)]; exact R.s.set i hi
      · rw [hf _ (by omega) (by omega)]; exact R.s.now
      · rw [hf _ (by omega) (by omega)]; exact R.s.kt
      · rw [hf _ (by omega) (by omega)]; exact R.s.lt
  · exact by rw [hN 1 (by omega)]; exact R.fe
  · exact by rw [hN 1 (by omega)]; exact R.lo
theorem RelW.putK2 {cn' : Cn} (R : RelW b cn but M N f fe lo) (hcb : CnB cn) (hc : cn'.c = cn.c) (hM : ∀ i, i < 20 ∨ 21 < i → M' (1, b, i) = M (1, b, i)) (hf : ∀ i, i < 1504 ∨ 1624 ≤ i → i ≠ 1632 → f' i = f i) (h : RK cn'.w (M' (1, b, 20)) (M' (1, b, 21)) f') : RelW b cn' but M' N f' fe lo := by
  refine ⟨?_, ?_, ?_, ?_, ?_, ?_, ?_⟩
  · exact by
      rw [hM 2 (by omega), hM 3 (by omega), hM 4 (by omega)]
      exact R.g.cg (fun i h1 => hf i (by omega) (by omega))
  · exact by
      rw [hM 6 (by omega), hM 7 (by omega), hM 8 (by omega), hM 9 (by omega), hM 10 (by omega), hM 11 (by omega), hM 12 (by omega)]
      exact R.p.cg (fun i h1 h2 => hf i (by omega) (by omega)) (hf _ (by omega) (by omega))
  · exact by
      rw [hM 15 (by omega), hM 16 (by omega), hM 17 (by omega), hM 18 (by omega), hc]
      exact R.c.cg hcb.2.1 (fun i h1 h2 => hf i (by omega) (by omega))
  · exact h
  · exact by
      rw [hM 22 (by omega), hM 0 (by omega)]
      refine ⟨fun i hi => ?_, ?_, ?_, ?_, R.s.but⟩
      · rw [hf _ (by omega) (by omega)]; exact R.s.set i hi
      · rw [hf _ (by omega) (by omega)]; exact R.s.now
      · rw [hf _ (by omega) (by omega)]; exact R.s.kt
      · rw [hf _ (by omega) (by omega)]; exact R.s.lt
  · exact R.fe
  · exact R.lo
theorem c_leavesOut {k : Nat} (R : RelW b cn but M N f fe lo) (hk : k < 3) (ha : a < 64) (h1 : but k a → postI 1 M N) (h0 : ¬ but k a → postI 0 M N) : w_X10_leavesOut b (nI k) (nI a) M N postI := by
  have hb := R.s.but k a hk ha
  unfold w_X10_leavesOut
  exact ⟨fun z => h0 (fun y => z (hb.mpr y).1), fun z => ⟨fun z2 => h0 (fun y => z2 (hb.mpr y).2), fun z2 => h1 (hb.mp ⟨z, z2⟩)⟩⟩
theorem eq_isPlace (ha : a < 8) : w_X1_isPlace (nI a) M N postI ↔ postI 1 M N := by
  unfold w_X1_isPlace
  exact ⟨fun h => (h.2 (nI_pos (by omega))).2 (nI_ge (b := 8) ha (by omega)), fun h => ⟨fun z => absurd z (nI_pos (by omega)), fun _ => ⟨fun z => absurd z (nI_ge (b := 8) ha (by omega)), fun _ => h⟩⟩⟩
theorem RP.sow {st il : Int64} {sz se go sw ba sh : Nat → Int32} {nl : Int32} (R : RP st il sz se go sw ba sh nl f) (ha : a < 64) (h0 : f (192 + a) = 0) : RP (st ||| am_bit (nI a)) il (upd sz a 0) (upd se a 0) (upd go a 0) sw (upd ba a 0) (put5 sh (5 * a) (sowS bk.pr cn.k)) nl (sowF bk cn f a) := by
  have ho : ∀ i, ¬ (640 + 5 * a ≤ i ∧ i < 640 + 5 * a + 5) → i ≠ 192 + a → i ≠ 256 + a → i ≠ 320 + a → i ≠ 384 + a → i ≠ 448 + a → sowF bk cn f a i = f i := fun i => sowF_o
  have h1 : sowF bk cn f a (192 + a) = 1 := by unfold sowF; rw [pk_un (by omega), pk_un (by omega), pk_un (by omega), pk_un (by omega), pk_us]
  have h2 : sowF bk cn f a (256 + a) = 0 := by unfold sowF; rw [pk_un (by omega), pk_un (by omega), pk_un (by omega), pk_us]
  have h3 : sowF bk cn f a (320 + a) = 0 := by unfold sowF; rw [pk_un (by omega), pk_un (by omega), pk_us]
  have h4 : sowF bk cn f a (384 + a) = 0 := by unfold sowF; rw [pk_un (by omega), pk_us]
  have h5 : sowF bk cn f a (448 + a) = 0 := by unfold sowF; rw [pk_us]
  have h6 : ∀ k, k < 5 → sowF bk cn f a (640 + 5 * a + k) = sowS bk.pr cn.k k := fun k hk => by unfold sowF; rw [pk_un (by omega), pk_un (by omega), pk_un (by omega), pk_un (by omega), pk_un (by omega), put5_at hk]
  have hne : ¬ (0 : Int32) = 1 := by decide
  refine ⟨fun i hi => ?_, fun i hi => ?_, fun i hi => ?_, fun i hi => ?_, fun i hi => ?_, fun i hi => ?_, ?_⟩
  · rw [tb_set ha hi]
    by_cases e : i = a
    · subst e; rw [if_pos rfl, h1]; exact ⟨fun _ => rfl, fun _ => rfl⟩
    · rw [if_neg e, ho _ (by omega) (by omega) (by omega) (by omega) (by omega) (by omega)]; exact R.st i hi
  · by_cases e : i = a
    · subst e
      rw [h1, h3]
      have := R.il i hi
      rw [h0] at this
      exact ⟨fun z => absurd (this.mp z).1 hne, fun z => absurd z.2 hne⟩
    · rw [ho _ (by omega) (by omega) (by omega) (by omega) (by omega) (by omega), ho _ (by omega) (by omega) (by omega) (by omega) (by omega) (by omega)]; exact R.il i hi
  · by_cases e : i = a
    · subst e; intro _; rw [pk_us, pk_us, pk_us, h2, h4, h5]; exact ⟨rfl, rfl, rfl⟩
    · rw [pk_un e, pk_un e, pk_un e, ho _ (by omega) (by omega) (by omega) (by omega) (by omega) (by omega), ho _ (by omega) (by omega) (by omega) (by omega) (by omega) (by omega), ho _ (by omega) (by omega) (by omega) (by omega) (by omega) (by omega), ho _ (by omega) (by omega) (by omega) (by omega) (by omega) (by omega)]; exact R.sz i hi
  · by_cases e : i = a
    · subst e; intro _ k hk; rw [put5_at hk, h6 k hk]
    · rw [ho _ (by omega) (by omega) (by omega) (by omega) (by omega) (by omega)]
      intro z k hk
      rw [put5_o (by omega), ho _ (by omega) (by omega) (by omega) (by omega) (by omega) (by omega)]; exact R.sh i hi z k hk
  · rw [ho _ (by omega) (by omega) (by omega) (by omega) (by omega) (by omega)]; exact R.sw i hi
  · by_cases e : i = a
    · subst e; rw [pk_us, h1, if_pos rfl]
    · rw [pk_un e, ho _ (by omega) (by omega) (by omega) (by omega) (by omega) (by omega), ho _ (by omega) (by omega) (by omega) (by omega) (by omega) (by omega)]; exact R.ba i hi
  · rw [ho _ (by omega) (by omega) (by omega) (by omega) (by omega) (by omega)]; exact R.nl
theorem RelW.sow (R : RelW b cn but M N f fe lo) (hcb : CnB cn) (ha : a < 64) (h0 : f (192 + a) = 0) : RelW b cn but (am_s (am_u (am_u (am_u (am_u M (1, b, 7) a 0) (1, b, 8) a 0) (1, b, 9) a 0) (1, b, 11) a 0) (1, b, 12) (put5 (M (1, b, 12)) (5 * a) (sowS bk.pr cn.k))) (am_ul N (1, b, 6) 8 (N (1, b, 6) 8 ||| am_bit (nI a))) (sowF bk cn f a) fe lo := by
  refine RelW.putP hcb R (fun i hi => ?_) (fun i hi => am_ul_o N 8 _ (cell_ne (by omega))) (fun i hi h5 => sowF_o (by omega) (by omega) (by omega) (by omega) (by omega) (by omega)) ?_
  · rw [am_s_other _ _ (cell_ne (by omega)), am_u_o _ _ _ (cell_ne (by omega)), am_u_o _ _ _ (cell_ne (by omega)), am_u_o _ _ _ (cell_ne (by omega)), am_u_o _ _ _ (cell_ne (by omega))]
  · have e12 : ∀ i, i ≠ 12 → am_s (am_u (am_u (am_u (am_u M (1, b, 7) a 0) (1, b, 8) a 0) (1, b, 9) a 0) (1, b, 11) a 0) (1, b, 12) (put5 (M (1, b, 12)) (5 * a) (sowS bk.pr cn.k)) (1, b, i) = am_u (am_u (am_u (am_u M (1, b, 7) a 0) (1, b, 8) a 0) (1, b, 9) a 0) (1, b, 11) a 0 (1, b, i) := fun i hi => am_s_other _ _ (cell_ne hi)
    have o11 : ∀ i, i ≠ 11 → am_u (am_u (am_u (am_u M (1, b, 7) a 0) (1, b, 8) a 0) (1, b, 9) a 0) (1, b, 11) a 0 (1, b, i) = am_u (am_u (am_u M (1, b, 7) a 0) (1, b, 8) a 0) (1, b, 9) a 0 (1, b, i) := fun i hi => am_u_o _ _ _ (cell_ne hi)
    have o9 : ∀ i, i ≠ 9 → am_u (am_u (am_u M (1, b, 7) a 0) (1, b, 8) a 0) (1, b, 9) a 0 (1, b, i) = am_u (am_u M (1, b, 7) a 0) (1, b, 8) a 0 (1, b, i) := fun i hi => am_u_o _ _ _ (cell_ne hi)
    have o8 : ∀ i, i ≠ 8 → am_u (am_u M (1, b, 7) a 0) (1, b, 8) a 0 (1, b, i) = am_u M (1, b, 7) a 0 (1, b, i) := fun i hi => am_u_o _ _ _ (cell_ne hi)
    have o7 : ∀ i, i ≠ 7 → am_u M (1, b, 7) a 0 (1, b, i) = M (1, b, i) := fun i hi => am_u_o _ _ _ (cell_ne hi)
    rw [am_s_same, e12 7 (by omega), e12 8 (by omega), e12 9 (by omega), e12 10 (by omega), e12 11 (by omega), e12 6 (by omega), am_u_c _ (1, b, 11), o11 7 (by omega), o11 8 (by omega), o11 9 (by omega), o11 10 (by omega), o11 6 (by omega), am_u_c _ (1, b, 9), o9 7 (by omega), o9 8 (by omega), o9 10 (by omega), o9 6 (by omega), o9 11 (by omega), am_u_c _ (1, b, 8), o8 7 (by omega), o8 9 (by omega), o8 10 (by omega), o8 6 (by omega), o8 11 (by omega), am_u_c _ (1, b, 7), o7 8 (by omega), o7 9 (by omega), o7 10 (by omega), o7 6 (by omega), o7 11 (by omega), am_ul_at, am_ul_c, pk_uLn (by decide)]
    exact R.p.sow ha h0
theorem RelW.show (R : RelW b cn but M N f fe lo) (hcb : CnB cn) (ha : a < 64) (x : Int32) : RelW b cn but (am_u M (1, b, 10) a x) N (upd f (512 + a) x) fe lo := by
  refine RelW.putP hcb R (fun i hi => am_u_o M a x (cell_ne (by omega))) (fun _ _ => rfl) (fun i hi h5 => pk_un (by omega)) ?_
  rw [am_u_c, am_u_o M a x (cell_ne (show 7 ≠ 10 by omega)), am_u_o M a x (cell_ne (show 8 ≠ 10 by omega)), am_u_o M a x (cell_ne (show 9 ≠ 10 by omega)), am_u_o M a x (cell_ne (show 11 ≠ 10 by omega)), am_u_o M a x (cell_ne (show 12 ≠ 10 by omega)), am_u_o M a x (cell_ne (show 6 ≠ 10 by omega))]
  have P := R.p
  refine ⟨fun i hi => ?_, fun i hi => ?_, fun i hi => ?_, fun i hi => ?_, fun i hi => ?_, fun i hi => ?_, ?_⟩
  · rw [pk_un (by omega)]; exact P.st i hi
  · rw [pk_un (by omega), pk_un (by omega)]; exact P.il i hi
  · rw [pk_un (by omega), pk_un (by omega), pk_un (by omega), pk_un (by omega)]; exact P.sz i hi
  · rw [pk_un (by omega)]
    intro z k hk
    rw [pk_un (by omega)]; exact P.sh i hi z k hk
  · by_cases e : i = a
    · subst e; rw [pk_us, pk_us]
    · rw [pk_un e, pk_un (by omega)]; exact P.sw i hi
  · rw [pk_un (by omega), pk_un (by omega)]; exact P.ba i hi
  · rw [pk_un (by omega)]; exact P.nl
theorem c_hear {n : Nat} (S : StC b bk cn full but M N f fe lo) (hK : BkC M bk (cnAdd cn wh) full) (G : GoodF W cn f) (hB : BkGood bk (cnAdd cn wh)) (hr : RowOK cn wh a bb c) (hM : rowC M n i wh a bb c) (h : ∀ M' N', Fr b M N M' N' → StC b bk (cnAdd cn wh) full but M' N' (doesF bk but cn wh a bb c f) fe lo → post M' N') : w_X10_hear b (nI i) M N post := by
  have h8 := G.b.2.1
  have h60 := G.b.2.2.1
  obtain ⟨hT, hi, m1, m2, m3, m4⟩ := hM
  have hle := hr.le
  have kq : ∀ n, n < 12 → (nI wh = nI n ↔ wh = n) := fun n hn => nI_eq (by omega) (by omega)
  have k0 : nI wh = 0 ↔ wh = 0 := kq 0 (by omega)
  have k1 : nI wh = 1 ↔ wh = 1 := kq 1 (by omega)
  have k2 : nI wh = 2 ↔ wh = 2 := kq 2 (by omega)
  have k3 : nI wh = 3 ↔ wh = 3 := kq 3 (by omega)
  have k4 : nI wh = 4 ↔ wh = 4 := kq 4 (by omega)
  have k5 : nI wh = 5 ↔ wh = 5 := kq 5 (by omega)
  have k6 : nI wh = 6 ↔ wh = 6 := kq 6 (by omega)
  have k7 : nI wh = 7 ↔ wh = 7 := kq 7 (by omega)
  have k8 : nI wh = 8 ↔ wh = 8 := kq 8 (by omega)
  have k9 : nI wh = 9 ↔ wh = 9 := kq 9 (by omega)
  have k10 : nI wh = 10 ↔ wh = 10 := kq 10 (by omega)
  have k11 : nI wh = 11 ↔ wh = 11 := kq 11 (by omega)
  have nx : ∀ {M' : am_I} {N' : am_N} {f' : Nat → Int32}, Fr b M N M' N' → RelW b (cnAdd cn wh) but M' N' f' fe lo → StC b bk (cnAdd cn wh) full but M' N' f' fe lo := fun F R => ⟨hK.cg (fun t i => F.1.tab t i), S.fb, R⟩
  unfold w_X10_hear
  refine sp_at (w := 5) (c := 2) hT hi (by omega) (sp_at (w := 5) (c := 3) hT hi (by omega) (sp_at (w := 5) (c := 1) hT hi (by omega) ?_))
  rw [m1, m3, k0, k1, k2, k3, k4, k5, k6, k7, k8, k9, k10, k11]
  unfold doesF at h
  refine ⟨fun e => ?_, fun e => ?_, fun e => ?_, fun e => ?_, fun e => ?_, fun e => ?_, fun e => ?_, fun e => ?_, fun e => ?_, fun e => ?_, fun e => ?_, fun e => ?_, fun n0 n1 n2 n3 n4 n5 n6 n7 n8 n9 n10 n11 => by omega⟩
  · obtain ⟨ha, hb, hc⟩ := hr.l0 e
    rw [m2 (by omega) (by omega)]
    rw [if_pos e] at h
    refine sp_at (w := 5) (c := 4) hT hi (by omega) ?_
    rw [m4]
    unfold w_X2_shape
    refine eq_X11_isCell.mpr ?_
    rw [am_bt ⟨nI_pos' (by omega), nI_le (b := 63) (by omega) (by omega)⟩, nI_clamp (show a < 2 ^ 31 by omega)]
    have v := vp_in_nI ha (show 64 < 2 ^ 31 by omega)
    have F : Fr b M N (am_u (am_u M (1, b, 2) a (nI bb)) (1, b, 3) a (nI c)) N := (Fr.u (by decide) _).tr (Fr.u (by decide) _)
    exact ⟨fun z => absurd z (by decide), fun _ => ⟨v, v, h _ _ F (nx F ((S.w.shape G.b ha _ _).kn (by rw [cnAdd_c, if_neg (by omega), Nat.add_zero]) (by rw [cnAdd_w, if_neg (by omega), Nat.add_zero])))⟩⟩
  · obtain ⟨ha, hb⟩ := hr.l1 e
    rw [m2 (by omega) (by omega)]
    rw [if_neg (by omega), if_pos e] at h
    unfold w_X10_adjust
    refine eq_X11_within.mpr ?_
    rw [am_bt ⟨nI_pos' (by omega), nI_le (b := 3) (by omega) (by omega)⟩, nI_clamp (show a < 2 ^ 31 by omega)]
    have F : Fr b M N (am_u M (1, b, 22) a (nI bb)) N := Fr.u (by decide) _
    exact ⟨fun z => absurd z (by decide), fun _ => ⟨vp_in_nI ha (by omega), h _ _ F (nx F ((S.w.adj G.b ha _).kn (by rw [cnAdd_c, if_neg (by omega), Nat.add_zero]) (by rw [cnAdd_w, if_neg (by omega), Nat.add_zero])))⟩⟩
  · rw [if_neg (by omega), if_neg (by omega), if_pos e] at h
    exact h _ _ Fr.rf (nx Fr.rf ((S.w.hi G.b (fun i hi => pk_un (by omega))).kn (by rw [cnAdd_c, if_neg (by omega), Nat.add_zero]) (by rw [cnAdd_w, if_neg (by omega), Nat.add_zero])))
  · obtain ⟨ha, hb⟩ := hr.l3 e
    rw [m2 (by omega) (by omega)]
    rw [if_neg (by omega), if_neg (by omega), if_neg (by omega), if_pos e] at h
    have hcc : (cnAdd cn wh).c = cn.c + 1 := by rw [cnAdd_c, if_pos e]
    have hww : (cnAdd cn wh).w = cn.w := by rw [cnAdd_w, if_neg (by omega)]; rfl
    have hle := hK.le.2.1
    have hac : a < (cnAdd cn wh).c := by omega
    have hnew := G.c.new a (by omega) (by omega)
    have ho : ∀ i, i < 960 ∨ 1504 ≤ i → i ≠ 1631 → comesF bk f a i = f i := fun i h1 h4 => by
      unfold comesF
      rw [pk_un h4, pk_un (by omega), pk_un (by omega), pk_un (by omega)]
    unfold w_X10_bringCart
    refine c_leavesOut (k := 1) S.w (by omega) (by omega) (fun z => ⟨fun _ => ?_, fun y => absurd y (by decide)⟩) (fun z => ⟨fun y => absurd rfl y, fun _ => ?_⟩)
    · refine h _ _ Fr.rf (nx Fr.rf (S.w.putC2 G.b hww (fun _ _ => rfl) (fun _ _ => rfl) ho ?_))
      rw [hcc]
      subst ha
      exact S.w.c.come0 hb z
    · unfold w_X1_bring
      rw [eq_isPlace (by omega)]
      refine ⟨fun y => absurd y (by decide), fun _ => sp_at (w := 5) (c := 3) hK.t2 (by omega) (by omega) ?_⟩
      rw [(hK.c a hac).2.2.2.1, nI_clamp (show a < 2 ^ 31 by omega)]
      have v := vp_in_nI (show a < 8 by omega) (show 8 < 2 ^ 31 by omega)
      have F1 : Fr b M N (am_u M (1, b, 15) a (nI (bk.cH a))) N := Fr.u (by decide) _
      have K1 := hK.cg (fun t i => F1.1.tab t i)
      refine ⟨v, sp_at (w := 5) (c := 4) K1.t2 (by omega) (by omega) ?_⟩
      rw [(K1.c a hac).2.2.2.2]
      refine ⟨v, v, ?_⟩
      have F : Fr b M N (am_u (am_u (am_u M (1, b, 15) a (nI (bk.cH a))) (1, b, 16) a (nI (bk.cU a))) (1, b, 17) a 0) N := F1.tr ((Fr.u (by decide) _).tr (Fr.u (by decide) _))
      refine h _ _ F (nx F (S.w.putC2 G.b hww (fun i hi => by rw [am_u_o _ _ _ (cell_ne (by omega)), am_u_o _ _ _ (cell_ne (by omega)), am_u_o _ _ _ (cell_ne (by omega))]) (fun _ _ => rfl) ho ?_))
      rw [hcc, am_u_o _ _ _ (cell_ne (show 15 ≠ 17 by omega)), am_u_o _ _ _ (cell_ne (show 15 ≠ 16 by omega)), am_u_c, am_u_o _ _ _ (cell_ne (show 16 ≠ 17 by omega)), am_u_c, am_u_o _ _ _ (cell_ne (show 16 ≠ 15 by omega)), am_u_c, am_u_o _ _ _ (cell_ne (show 17 ≠ 16 by omega)), am_u_o _ _ _ (cell_ne (show 17 ≠ 15 by omega)), am_u_o _ _ _ (cell_ne (show 18 ≠ 17 by omega)), am_u_o _ _ _ (cell_ne (show 18 ≠ 16 by omega)), am_u_o _ _ _ (cell_ne (show 18 ≠ 15 by omega))]
      subst ha
      exact S.w.c.come hb hnew.1 hnew.2 z
  · have ha := hr.l4 e
    rw [m2 (by omega) (by omega)]
    rw [if_neg (by omega), if_neg (by omega), if_neg (by omega), if_neg (by omega), if_pos e, cnAdd_o (by omega)] at h
    have hle := S.k.le.2.1
    have v := vp_in_nI (show a < 8 by omega) (show 8 < 2 ^ 31 by omega)
    unfold w_X1_refill w_X1_isFlat
    rw [eq_isPlace (by omega), nI_clamp (show a < 2 ^ 31 by omega)]
    unfold chargedF at h
    refine ⟨fun y => absurd y (by decide), fun _ => ⟨v, ?_⟩⟩
    by_cases z : but 1 a
    · rw [S.w.c.off a (by omega) (Or.inr z)]
      rw [pick_t (Or.inl z)] at h
      exact ⟨fun _ => ⟨fun _ => h _ _ Fr.rf S, fun y => absurd rfl y⟩, fun y => absurd y (by decide)⟩
    · rw [(S.w.c.on a ha z).2.2.1]
      refine ⟨fun y => ⟨fun _ => ?_, fun y => absurd rfl y⟩, fun y => ⟨fun y => absurd y (by decide), fun _ => sp_at (w := 5) (c := 4) S.k.t2 (by omega) (by omega) ?_⟩⟩
      · rw [pick_t (Or.inr y)] at h
        exact h _ _ Fr.rf S
      · rw [(S.k.c a ha).2.2.2.2]
        rw [pick_f (fun y2 => y2.elim z (fun y3 => y3 y))] at h
        have F : Fr b M N (am_u (am_u M (1, b, 16) a (nI (bk.cU a))) (1, b, 17) a 0) N := (Fr.u (by decide) _).tr (Fr.u (by decide) _)
        exact ⟨v, v, h _ _ F (S.nx F ((S.w.u16 G.b ha _).u17 G.b ha z _))⟩
  · obtain ⟨ha, hb⟩ := hr.l5 e
    rw [m2 (by omega) (by omega)]
    rw [if_neg (by omega), if_neg (by omega), if_neg (by omega), if_neg (by omega), if_neg (by omega), if_pos e] at h
    have hcc : (cnAdd cn wh).c = cn.c := by rw [cnAdd_c, if_neg (by omega)]; rfl
    have hww : (cnAdd cn wh).w = cn.w + 1 := by rw [cnAdd_w, if_pos e]
    have ho : ∀ i, i < 1504 ∨ 1624 ≤ i → i ≠ 1632 → opensF but f a i = f i := fun i h1 h2 => by
      unfold opensF
      rw [pk_un h2, pk_un (by omega), pk_un (by omega)]
    have h1504 : opensF but f a (1504 + a) = stat (but 2 a) := by unfold opensF; rw [pk_un (by omega), pk_un (by omega), pk_us]
    have h1564 : opensF but f a (1564 + a) = -1 := by unfold opensF; rw [pk_un (by omega), pk_us]
    have hoo : ∀ i, i < 60 → i ≠ a → opensF but f a (1504 + i) = f (1504 + i) ∧ opensF but f a (1564 + i) = f (1564 + i) := fun i h1 h2 => by
      unfold opensF
      rw [pk_un (by omega), pk_un (by omega), pk_un (by omega), pk_un (by omega), pk_un (by omega), pk_un (by omega)]
      exact ⟨rfl, rfl⟩
    have hnew := S.w.k.new a (by omega) (by omega)
    have v := vp_in_nI (show a < 60 by omega) (show 60 < 2 ^ 31 by omega)
    unfold w_X10_openWork
    refine eq_X11_within.mpr ?_
    rw [am_bt ⟨nI_pos' (by omega), nI_le (b := 59) (by omega) (by omega)⟩, nI_clamp (show a < 2 ^ 31 by omega)]
    refine ⟨fun z => absurd z (by decide), fun _ => c_leavesOut (k := 2) S.w (by omega) (by omega) (fun z => ⟨fun _ => ?_, fun y => absurd y (by decide)⟩) (fun z => ⟨fun y => absurd rfl y, fun _ => ⟨v, ?_⟩⟩)⟩
    · refine h _ _ Fr.rf (nx Fr.rf (S.w.putK2 G.b hcc (fun _ _ => rfl) ho ?_))
      rw [hww]
      refine ⟨fun i hi => ?_, fun i hi hn => S.w.k.new i hi (by omega)⟩
      by_cases ei : i = a
      · subst ei
        rw [h1504, h1564, hnew.1, hnew.2]
        exact ⟨(if_pos z).symm, rfl⟩
      · rw [(hoo i (by omega) ei).1, (hoo i (by omega) ei).2]
        exact S.w.k.on i (by omega)
    · have F : Fr b M N (am_u M (1, b, 20) a 0) N := Fr.u (by decide) _
      refine h _ _ F (nx F (S.w.putK2 G.b hcc (fun i hi => am_u_o _ _ _ (cell_ne (by omega))) ho ?_))
      rw [hww, am_u_c, am_u_o _ _ _ (cell_ne (show 21 ≠ 20 by omega))]
      refine ⟨fun i hi => ?_, fun i hi hn => by rw [pk_un (show i ≠ a by omega)]; exact S.w.k.new i hi (by omega)⟩
      by_cases ei : i = a
      · subst ei
        rw [h1504, h1564, pk_us, hnew.2]
        exact ⟨(if_neg z).symm, rfl⟩
      · rw [pk_un ei, (hoo i (by omega) ei).1, (hoo i (by omega) ei).2]
        exact S.w.k.on i (by omega)
  · rw [if_neg (by omega), if_neg (by omega), if_neg (by omega), if_neg (by omega), if_neg (by omega), if_neg (by omega), if_pos e] at h
    rw [S.w.s.lt]
    have F : Fr b M N (am_u M (1, b, 0) 11 (f 1633 + 1)) N := Fr.w (by decide) (by decide) (by decide) _
    exact h _ _ F (nx F ((S.w.lots G.b _).kn (by rw [cnAdd_c, if_neg (by omega), Nat.add_zero]) (by rw [cnAdd_w, if_neg (by omega), Nat.add_zero])))
  · rw [if_neg (by omega), if_neg (by omega), if_neg (by omega), if_neg (by omega), if_neg (by omega), if_neg (by omega), if_neg (by omega), if_pos e] at h
    rw [S.w.s.kt]
    have F : Fr b M N (am_u M (1, b, 0) 10 (f 1634 + 1)) N := Fr.w (by decide) (by decide) (by decide) _
    exact h _ _ F (nx F ((S.w.kinds G.b _).kn (by rw [cnAdd_c, if_neg (by omega), Nat.add_zero]) (by rw [cnAdd_w, if_neg (by omega), Nat.add_zero])))
  · obtain ⟨ha, hk⟩ := hr.l8 e
    have hk5 := G.b.2.2.2.2
    have hle := S.k.le.2.2.2.2
    rw [m2 (by omega) (by omega)]
    rw [if_neg (by omega), if_neg (by omega), if_neg (by omega), if_neg (by omega), if_neg (by omega), if_neg (by omega), if_neg (by omega), if_neg (by omega), if_pos e, cnAdd_o (by omega)] at h
    rw [S.w.s.kt, G.n.k]
    by_cases z : f (192 + a) = 0
    · rw [if_pos z] at h
      have z1 : ¬ f (192 + a) = 1 := by rw [z]; decide
      have hpr : priorC M cn.k bk.pr := fun k hkk => by
        refine ⟨(hB.k k (by rw [cnAdd_k]; omega)).1, fun M' N' p e0 e1 hp => ?_⟩
        refine sp_at (w := 6) (c := 1) (S.k.t4.cg e0) (by omega) (by omega) ?_
        rw [e1, (S.k.k k hkk).1]
        exact hp
      refine sp_X6_sow ha hk5 hk hpr ((tb_st S ha).mpr z1) ?_
      have F : Fr b M N (am_s (am_u (am_u (am_u (am_u M (1, b, 7) a 0) (1, b, 8) a 0) (1, b, 9) a 0) (1, b, 11) a 0) (1, b, 12) (put5 (M (1, b, 12)) (5 * a) (sowS bk.pr cn.k))) (am_ul N (1, b, 6) 8 (N (1, b, 6) 8 ||| am_bit (nI a))) := (Fr.u (by decide) _).tr ((Fr.u (by decide) _).tr ((Fr.u (by decide) _).tr ((Fr.u (by decide) _).tr ((Fr.s (by decide) _).tr (Fr.ul _)))))
      exact h _ _ F (S.nx F (S.w.sow G.b ha z))
    · rw [if_neg z] at h
      have z1 : f (192 + a) = 1 := (G.p.st a ha).resolve_left z
      unfold w_X6_sow
      refine eq_X11_isCell.mpr ?_
      rw [am_bt ⟨nI_pos' (by omega), nI_le (b := 63) (by omega) (by omega)⟩]
      refine ⟨fun y => ?_, fun y => ?_⟩
      all_goals first
        | exact absurd y (by decide)
        | exact sp_X6_standsOn ha (fun _ => ⟨fun y => absurd y (by decide), fun _ => h _ _ Fr.rf S⟩) (fun y2 => absurd z1 ((tb_st S ha).mp y2))
        | exact sp_X6_standsOn ha (fun _ => ⟨fun _ => h _ _ Fr.rf S, fun y => absurd y (by decide)⟩) (fun y2 => absurd z1 ((tb_st S ha).mp y2))
  · obtain ⟨ha, hb⟩ := hr.l9 e
    rw [m2 (by omega) (by omega)]
    rw [if_neg (by omega), if_neg (by omega), if_neg (by omega), if_neg (by omega), if_neg (by omega), if_neg (by omega), if_neg (by omega), if_neg (by omega), if_neg (by omega), if_pos e] at h
    unfold w_X6_expose
    refine eq_X11_isCell.mpr ?_
    rw [am_bt ⟨nI_pos' (by omega), nI_le (b := 63) (by omega) (by omega)⟩, nI_clamp (show a < 2 ^ 31 by omega)]
    have F : Fr b M N (am_u M (1, b, 10) a (nI bb)) N := Fr.u (by decide) _
    exact ⟨fun z => absurd z (by decide), fun _ => ⟨vp_in_nI ha (by omega), h _ _ F (nx F ((S.w.show G.b ha _).kn (by rw [cnAdd_c, if_neg (by omega), Nat.add_zero]) (by rw [cnAdd_w, if_neg (by omega), Nat.add_zero])))⟩⟩
  · obtain ⟨ha, hb⟩ := hr.l10 e
    rw [m2 (by omega) (by omega)]
    rw [if_neg (by omega), if_neg (by omega), if_neg (by omega), if_neg (by omega), if_neg (by omega), if_neg (by omega), if_neg (by omega), if_neg (by omega), if_neg (by omega), if_neg (by omega), if_pos e, cnAdd_o (by omega)] at h
    exact c_see S G ha (fun M1 N1 F1 _ S1 => h _ _ F1 S1)
  · obtain ⟨ha, hb⟩ := hr.l11 e
    rw [m2 (by omega) (by omega)]
    rw [if_neg (by omega), if_neg (by omega), if_neg (by omega), if_neg (by omega), if_neg (by omega), if_neg (by omega), if_neg (by omega), if_neg (by omega), if_neg (by omega), if_neg (by omega), if_neg (by omega), cnAdd_o (by omega)] at h
    have hb1 : nI bb = 1 ↔ bb = 1 := nI_eq (b := 1) (by omega) (by omega)
    rw [hb1]
    unfold w_X10_hear_p240 w_X6_sicken
    refine ⟨fun z => ?_, fun z => ?_⟩
    · have hb0 : bb = 0 := by omega
      subst hb0
      refine sp_X6_standsOn ha (fun y => ⟨fun _ => ⟨fun _ => eq_X11_bit.mpr ?_, fun y => absurd rfl y⟩, fun y => absurd y (by decide)⟩) (fun y => ⟨fun y => absurd rfl y, fun _ => ?_⟩)
      · rw [if_pos ((S.w.p.st a ha).mp y)] at h
        have F : Fr b M N M (am_ul N (1, b, 6) 9 (N (1, b, 6) 9 &&& (am_bit (nI a) ^^^ (-1)))) := Fr.ul _
        exact h _ _ F (S.nx F (S.w.well G.b ha))
      · rw [if_neg ((tb_st S ha).mp y)] at h
        exact h _ _ Fr.rf S
    · subst z
      refine sp_X6_standsOn ha (fun y => ⟨fun _ => ⟨fun y => absurd y (by decide), fun _ => eq_X11_bit.mpr ?_⟩, fun y => absurd y (by decide)⟩) (fun y => ⟨fun y => absurd rfl y, fun _ => ?_⟩)
      · have y1 := (S.w.p.st a ha).mp y
        rw [if_pos y1] at h
        have F : Fr b M N M (am_ul N (1, b, 6) 9 (N (1, b, 6) 9 ||| am_bit (nI a))) := Fr.ul _
        exact h _ _ F (S.nx F (S.w.sick G.b ha y1))
      · rw [if_neg ((tb_st S ha).mp y)] at h
        exact h _ _ Fr.rf S
end HE
