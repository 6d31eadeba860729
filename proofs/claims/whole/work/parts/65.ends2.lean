/-! ===== the end of a day: the reference's loops, and the class ===== -/
section EM
variable {M M' : am_I} {N N' : am_N} {b : Nat} {bk : Bk} {cn full : Cn} {but : Nat → Nat → Prop} {f f' g : Nat → Int32} {fe lo : Int64} {W q c w goal : Nat} {post : am_I → am_N → Prop} {postI : Int32 → am_I → am_N → Prop} {x : Int32}
theorem drownF_st (hc : c < 64) : ∀ {n : Nat}, n ≤ 64 → drownF f n (192 + c) = 1 → f (192 + c) = 1
  | 0, _, h => h
  | n + 1, hn, h => by
    unfold drownF at h
    by_cases e : drownF f n (64 + n) ≤ 600
    · rw [if_pos e] at h; exact drownF_st hc (n := n) (by omega) h
    · rw [if_neg e] at h
      by_cases ec : c = n
      · subst ec
        unfold dieI dieF at h
        by_cases e2 : drownF f c (192 + c) = 1
        · exact drownF_st hc (n := c) (by omega) e2
        · rw [if_neg e2] at h; exact absurd h e2
      · rw [dieI_o (by omega) (by omega)] at h
        exact drownF_st hc (n := n) (by omega) h
/-- first loop -/
theorem r_ends2 (S : StM bk cn but M N f fe lo) (h : ∀ M' N' wi, FrM M N M' N' → M' (3, 0, 27) = wi → (∀ c, c < 64 → (¬ wi c = 0 ↔ sickF f c)) → (∀ c, c < 64 → M' (3, 0, 28) c = 0) → StM bk cn but M' N' f fe lo → ∃ n, w_X12_ends_p62 post n 0 M' N') : w_X12_ends M N post := by
  unfold w_X12_ends
  refine ⟨65, ?_⟩
  have key : ∀ (j c : Nat), c + j = 64 → ∀ M1 N1, FrM M N M1 N1 → StM bk cn but M1 N1 f fe lo → (∀ i, i < c → (¬ M1 (3, 0, 27) i = 0 ↔ sickF f i) ∧ M1 (3, 0, 28) i = 0) → w_X12_ends_p2 post (j + 1) (nI c) M1 N1 := by
    intro j
    induction j with
    | zero =>
      intro c hc M1 N1 F1 S1 h1
      rw [w_X12_ends_p2_s]
      unfold w_X12_ends_p2_b
      exact ⟨fun _ => h _ _ _ F1 rfl (fun i hi => (h1 i (by omega)).1) (fun i hi => (h1 i (by omega)).2) S1, fun z => absurd (nI_le (a := 64) (by omega) (by omega)) z⟩
    | succ j ih =>
      intro c hc M1 N1 F1 S1 h1
      have i1 : (192 + nI c).toNatClampNeg = 192 + c := by rw [ix192, nI_clamp (by omega)]
      have v1 : vp_in (192 + nI c) 1635 := by rw [ix192]; exact vp_in_nI (by omega) (by omega)
      have i2 : (320 + nI c).toNatClampNeg = 320 + c := by rw [ix320, nI_clamp (by omega)]
      have v2 : vp_in (320 + nI c) 1635 := by rw [ix320]; exact vp_in_nI (by omega) (by omega)
      have vc : vp_in (nI c) 64 := vp_in_nI (by omega) (by omega)
      have fin : ∀ s0 : Int32, (¬ vp_nar .boolean s0 = 0 ↔ sickF f c) → w_X12_ends_p46 post (w_X12_ends_p2 post (j + 1)) (nI c) s0 (nI c) M1 N1 := by
        intro s0 hs0
        unfold w_X12_ends_p46
        rw [nI_1, nI_clamp (show c < 2 ^ 31 by omega), nar_b0]
        refine ⟨vc, vc, ih (c + 1) (by omega) _ _ (F1.tr ((FrM.x (i := 27) (by omega) (by omega) _).tr (FrM.x (i := 28) (by omega) (by omega) _))) ((S1.nx1 (i := 27) (by omega) (by omega) _).nx1 (i := 28) (by omega) (by omega) _) (fun i hi => ?_)⟩
        rw [am_u_o _ _ _ (show ((3 : Nat), (0 : Nat), (27 : Nat)) ≠ (3, 0, 28) by simp), am_u_c, am_u_c, am_u_o _ _ _ (show ((3 : Nat), (0 : Nat), (28 : Nat)) ≠ (3, 0, 27) by simp)]
        by_cases e : i = c
        · subst e; rw [pk_us, pk_us]; exact ⟨hs0, rfl⟩
        · rw [pk_un e, pk_un e]; exact h1 i (by omega)
      rw [w_X12_ends_p2_s]
      unfold w_X12_ends_p2_b
      rw [i1, i2, S1.f]
      refine ⟨fun z => absurd z (nI_ge (b := 64) (by omega) (by omega)), fun _ => ⟨v1, fun z => fin 0 ?_, fun z => ⟨v2, fun z2 => fin 0 ?_, fun z2 => fin 1 ?_⟩⟩⟩
      · rw [nar_b0]; exact ⟨fun y => absurd rfl y, fun y => absurd y.1 z⟩
      · rw [nar_b0]; exact ⟨fun y => absurd rfl y, fun y => absurd y.2 z2⟩
      · rw [nar_b1]; exact ⟨fun _ => ⟨z, z2⟩, fun _ => by decide⟩
  exact key 64 0 (by omega) M N FrM.rf S (fun i hi => absurd hi (Nat.not_lt_zero _))
/-- drowning -/
theorem r_ends62 (S : StM bk cn but M N f fe lo) (h : ∀ M' N', FrM M N M' N' → M' (3, 0, 27) = M (3, 0, 27) → M' (3, 0, 28) = M (3, 0, 28) → StM bk cn but M' N' (drownF f 64) fe lo → ∃ n, w_X12_ends_p111 post n 0 M' N') : ∃ n, w_X12_ends_p62 post n 0 M N := by
  refine ⟨65, ?_⟩
  have key : ∀ (j c : Nat), c + j = 64 → ∀ M1 N1, FrM M N M1 N1 → M1 (3, 0, 27) = M (3, 0, 27) → M1 (3, 0, 28) = M (3, 0, 28) → StM bk cn but M1 N1 (drownF f c) fe lo → w_X12_ends_p62 post (j + 1) (nI c) M1 N1 := by
    intro j
    induction j with
    | zero =>
      intro c hc M1 N1 F1 a1 a2 S1
      have hc' : c = 64 := by omega
      subst hc'
      rw [w_X12_ends_p62_s]
      unfold w_X12_ends_p62_b
      exact ⟨fun _ => h _ _ F1 a1 a2 S1, fun z => absurd (nI_le (a := 64) (b := 64) (by omega) (by omega)) z⟩
    | succ j ih =>
      intro c hc M1 N1 F1 a1 a2 S1
      have i1 : (192 + nI c).toNatClampNeg = 192 + c := by rw [ix192, nI_clamp (by omega)]
      have v1 : vp_in (192 + nI c) 1635 := by rw [ix192]; exact vp_in_nI (by omega) (by omega)
      have i2 : (64 + nI c).toNatClampNeg = 64 + c := by rw [ix64, nI_clamp (by omega)]
      have v2 : vp_in (64 + nI c) 1635 := by rw [ix64]; exact vp_in_nI (by omega) (by omega)
      have ih' := ih (c + 1) (by omega)
      unfold drownF dieI at ih'
      rw [w_X12_ends_p62_s]
      unfold w_X12_ends_p62_b
      rw [i1, i2, S1.f, nI_1]
      refine ⟨fun z => absurd z (nI_ge (b := 64) (by omega) (by omega)), fun _ => ⟨v1, fun z => ?_, fun z => ⟨v2, fun z2 => ?_, fun z2 => ?_⟩⟩⟩
      · rw [if_neg z, ite_self] at ih'
        exact ih' _ _ F1 a1 a2 S1
      · rw [if_pos z2] at ih'
        exact ih' _ _ F1 a1 a2 S1
      · rw [if_neg z2, if_pos z] at ih'
        refine sp_X12_dies (by omega) ?_
        rw [S1.f]
        exact ih' _ _ (F1.tr (FrM.s _)) (by rw [am_s_other _ _ (by simp)]; exact a1) (by rw [am_s_other _ _ (by simp)]; exact a2) (S1.nf _)
  exact key 64 0 (by omega) M N FrM.rf rfl rfl S
/-- growing -/
theorem r_ends241 {fr fl s : Nat → Int32} (S : StM bk cn but M N fr fe lo) (e28 : M (3, 0, 28) = fl) (hs : mixF fr fl = s) (hst : ∀ c, c < 64 → s (192 + c) = 0 ∨ s (192 + c) = 1) (hfl : ∀ c, c < 64 → ¬ s (192 + c) = 1 → fl c = 0) (h : ∀ M' N', FrM M N M' N' → StM bk cn but M' N' (growF s 64) fe lo → post M' N') : ∃ n, w_X12_ends_p241 post n 0 M N := by
  refine ⟨65, ?_⟩
  have key : ∀ (j c : Nat), c + j = 64 → ∀ M1 N1, FrM M N M1 N1 → M1 (3, 0, 28) = fl → StM bk cn but M1 N1 (fun i => if 320 + c ≤ i ∧ i < 384 then fr i else growF s c i) fe lo → w_X12_ends_p241 post (j + 1) (nI c) M1 N1 := by
    intro j
    induction j with
    | zero =>
      intro c hc M1 N1 F1 a2 S1
      have hc' : c = 64 := by omega
      subst hc'
      rw [w_X12_ends_p241_s]
      unfold w_X12_ends_p241_b
      refine ⟨fun _ => h _ _ F1 ?_, fun z => absurd (nI_le (a := 64) (b := 64) (by omega) (by omega)) z⟩
      have e : (fun i => if 320 + 64 ≤ i ∧ i < 384 then fr i else growF s 64 i) = growF s 64 := by
        funext i
        rw [if_neg (by omega)]
      rw [e] at S1
      exact S1
    | succ j ih =>
      intro c hc M1 N1 F1 a2 S1
      have hc64 : c < 64 := by omega
      have i1 : (192 + nI c).toNatClampNeg = 192 + c := by rw [ix192, nI_clamp (by omega)]
      have v1 : vp_in (192 + nI c) 1635 := by rw [ix192]; exact vp_in_nI (by omega) (by omega)
      have i2 : (320 + nI c).toNatClampNeg = 320 + c := by rw [ix320, nI_clamp (by omega)]
      have v2 : vp_in (320 + nI c) 1635 := by rw [ix320]; exact vp_in_nI (by omega) (by omega)
      have i3 : (256 + nI c).toNatClampNeg = 256 + c := by rw [ix256, nI_clamp (by omega)]
      have v3 : vp_in (256 + nI c) 1635 := by rw [ix256]; exact vp_in_nI (by omega) (by omega)
      have i4 : (64 + nI c).toNatClampNeg = 64 + c := by rw [ix64, nI_clamp (by omega)]
      have v4 : vp_in (64 + nI c) 1635 := by rw [ix64]; exact vp_in_nI (by omega) (by omega)
      have vc : vp_in (nI c) 64 := vp_in_nI (by omega) (by omega)
      have ih' := ih (c + 1) (by omega)
      have eg : ∀ i, ¬ (256 ≤ i ∧ i < 256 + c) → growF s c i = s i := fun i hi => growF_o hi
      have fin : ∀ M2 f2, FrM M N M2 N1 → M2 (3, 0, 28) = fl → StM bk cn but M2 N1 f2 fe lo → s (192 + c) = 1 → (∀ i, f2 i = if 320 + (c + 1) ≤ i ∧ i < 384 then fr i else growF s c i) → w_X12_ends_p283 post (w_X12_ends_p241 post (j + 1)) (nI c) M2 N1 := by
        intro M2 f2 F2 b2 S2 hs1 hf2
        unfold w_X12_ends_p283
        rw [i3, i4, S2.f, nI_1, eq_X12_isIn]
        have h64 : f2 (64 + c) = s (64 + c) := by rw [hf2, if_neg (by omega), eg _ (by omega)]
        have h256 : f2 (256 + c) = s (256 + c) := by rw [hf2, if_neg (by omega), eg _ (by omega)]
        rw [h64, h256]
        have fin2 : ∀ x, growA s c = x → w_X12_ends_p241 post (j + 1) (nI (c + 1)) (am_u M2 (3, 0, 1) (256 + c) (s (256 + c) + x)) N1 := by
          intro x hx
          refine ih' _ _ (F2.tr FrM.u) (by rw [am_u_o _ _ _ (by simp)]; exact b2) ?_
          have S3 := S2.u (256 + c) (s (256 + c) + x)
          have e : (fun i => if 320 + (c + 1) ≤ i ∧ i < 384 then fr i else growF s (c + 1) i) = upd f2 (256 + c) (s (256 + c) + x) := by
            funext i
            show (if 320 + (c + 1) ≤ i ∧ i < 384 then fr i else (if s (192 + c) = 1 then upd (growF s c) (256 + c) (s (256 + c) + growA s c) else growF s c) i) = _
            rw [if_pos hs1, hx]
            by_cases e1 : i = 256 + c
            · subst e1; rw [if_neg (by omega), pk_us, pk_us]
            · rw [pk_un e1, pk_un e1, hf2]
          rw [e]
          exact S3
        refine ⟨v3, v4, fun z => ⟨v3, fin2 1 ?_⟩, fun z => ⟨v3, fin2 2 ?_⟩⟩
        · unfold growA; rw [if_neg ((am_b0 _).mp z)]
        · unfold growA; rw [if_pos (Classical.byContradiction fun y => z (am_bf y))]
      rw [w_X12_ends_p241_s]
      unfold w_X12_ends_p241_b
      have S1f := S1.f
      rw [i1, i2, nI_clamp (show c < 2 ^ 31 by omega), S1f, a2]
      have h192 : (fun i => if 320 + c ≤ i ∧ i < 384 then fr i else growF s c i) (192 + c) = s (192 + c) := by
        show (if _ then _ else _) = _
        rw [if_neg (by omega), eg _ (by omega)]
      rw [h192]
      refine ⟨fun z => absurd z (nI_ge (b := 64) (by omega) (by omega)), fun _ => ⟨v1, fun z => ⟨vc, fun z2 => ?_, fun z2 => ⟨v2, ?_⟩⟩, fun z => ?_⟩⟩
      · refine fin M1 _ F1 a2 S1 ((hst c hc64).resolve_left z) (fun i => ?_)
        by_cases e1 : i = 320 + c
        · subst e1
          rw [if_pos (by omega), if_neg (by omega), eg _ (by omega), ← hs, mixF_0 z2]
        · by_cases e2 : 320 + c ≤ i ∧ i < 384
          · rw [if_pos e2, if_pos (by omega)]
          · rw [if_neg e2, if_neg (by omega)]
      · refine fin _ _ (F1.tr FrM.u) (by rw [am_u_o _ _ _ (by simp)]; exact a2) (S1.u (320 + c) 1) ((hst c hc64).resolve_left z) (fun i => ?_)
        by_cases e1 : i = 320 + c
        · subst e1
          rw [pk_us, if_neg (by omega), eg _ (by omega), ← hs, mixF_1 hc64 z2]
        · rw [pk_un e1]
          by_cases e2 : 320 + c ≤ i ∧ i < 384
          · rw [if_pos e2, if_pos (by omega)]
          · rw [if_neg e2, if_neg (by omega)]
      · rw [nI_1]
        refine ih' _ _ F1 a2 ?_
        have z1 : ¬ s (192 + c) = 1 := by rw [z]; decide
        have e : (fun i => if 320 + (c + 1) ≤ i ∧ i < 384 then fr i else growF s (c + 1) i) = (fun i => if 320 + c ≤ i ∧ i < 384 then fr i else growF s c i) := by
          funext i
          show (if 320 + (c + 1) ≤ i ∧ i < 384 then fr i else (if s (192 + c) = 1 then upd (growF s c) (256 + c) (s (256 + c) + growA s c) else growF s c) i) = _
          rw [if_neg z1]
          by_cases e1 : i = 320 + c
          · subst e1
            rw [if_neg (by omega), if_pos (by omega), eg _ (by omega), ← hs, mixF_0 (hfl c hc64 z1)]
          · by_cases e2 : 320 + c ≤ i ∧ i < 384
            · rw [if_pos e2, if_pos (by omega)]
            · rw [if_neg e2, if_neg (by omega)]
        rw [e]
        exact S1
  refine key 64 0 (by omega) M N FrM.rf e28 ?_
  have e : (fun i => if 320 + 0 ≤ i ∧ i < 384 then fr i else growF s 0 i) = fr := by
    funext i
    show (if 320 + 0 ≤ i ∧ i < 384 then fr i else s i) = fr i
    by_cases e2 : 320 + 0 ≤ i ∧ i < 384
    · rw [if_pos e2]
    · rw [if_neg e2, ← hs, mixF_o (by omega)]
  rw [e]
  exact S
/-- all of it -/
theorem r_ends (S : StM bk cn but M N f fe lo) (G : GoodF W cn f) (h : ∀ M' N', FrM M N M' N' → StM bk cn but M' N' (endsF bk cn f) fe lo → post M' N') : w_X12_ends M N post := by
  have hl := G.b.2.2.2.1
  refine r_ends2 S (fun M1 N1 wi F1 e27 hwi0 h28 S1 => r_ends62 S1 (fun M2 N2 F2 a1 a2 S2 => ⟨65, ?_⟩))
  have Gg := drownF_good G 64 (Nat.le_refl _)
  have hwi : ∀ n, n < 64 → drownF f 64 (192 + n) = 1 → (¬ wi n = 0 ↔ drownF f 64 (320 + n) = 1) := fun n hn h1 => by
    rw [hwi0 n hn, drownF_o (Nat.le_refl _) (by omega) (by omega)]
    exact ⟨fun z => z.2, fun z => ⟨drownF_st hn (Nat.le_refl _) h1, z⟩⟩
  have hfin : ∀ M' N', FrM M N M' N' → StM bk cn but M' N' (growF (spreadF bk cn (drownF f 64)) 64) fe lo → post M' N' := h
  have Gs : GoodF W cn (spreadF bk cn (drownF f 64)) := spreadF_good Gg
  generalize drownF f 64 = g at S2 Gg hwi hfin Gs
  have key : ∀ (j c : Nat), c + j = 64 → ∀ M3 N3 fr fl, FrM M N M3 N3 → M3 (3, 0, 27) = wi → M3 (3, 0, 28) = fl → StM bk cn but M3 N3 fr fe lo → mixF fr fl = (if cn.l = 0 then g else spC bk g c) → (∀ i, i ≠ 1625 → fr i = g i) → (∀ n, n < 64 → ¬ g (192 + n) = 1 → fl n = 0) → w_X12_ends_p111 post (j + 1) (nI c) M3 N3 := by
    intro j
    induction j with
    | zero =>
      intro c hc M3 N3 fr fl F3 b1 b2 S3 hmix hfr hfl
      have hc' : c = 64 := by omega
      subst hc'
      rw [w_X12_ends_p111_s]
      unfold w_X12_ends_p111_b
      refine ⟨fun _ => ?_, fun z => absurd (nI_le (a := 64) (b := 64) (by omega) (by omega)) z⟩
      have hmix' : mixF fr fl = spreadF bk cn g := hmix
      refine r_ends241 S3 b2 hmix' (fun c hc => Gs.p.st c hc) (fun c hc hn => hfl c hc (fun y => hn ?_)) (fun M4 N4 F4 S4 => hfin _ _ (F3.tr F4) S4)
      rw [spreadF_o (by omega) (by omega)]
      exact y
    | succ j ih =>
      intro c hc M3 N3 fr fl F3 b1 b2 S3 hmix hfr hfl
      have hc64 : c < 64 := by omega
      have i1 : (192 + nI c).toNatClampNeg = 192 + c := by rw [ix192, nI_clamp (by omega)]
      have v1 : vp_in (192 + nI c) 1635 := by rw [ix192]; exact vp_in_nI (by omega) (by omega)
      have vc : vp_in (nI c) 64 := vp_in_nI (by omega) (by omega)
      have ih' := ih (c + 1) (by omega)
      have skip : ¬ (g (192 + c) = 1 ∧ ¬ sickF g c) → w_X12_ends_p111 post (j + 1) (nI (c + 1)) M3 N3 := fun hn => by
        refine ih' _ _ fr fl F3 b1 b2 S3 ?_ hfr hfl
        rw [hmix]
        by_cases e : cn.l = 0
        · rw [if_pos e, if_pos e]
        · rw [if_neg e, if_neg e]
          show spC bk g c = pick _ _ _
          rw [pick_f hn]
      rw [w_X12_ends_p111_s]
      unfold w_X12_ends_p111_b
      rw [i1, nI_clamp (show c < 2 ^ 31 by omega), S3.f, b1, nI_1, hfr _ (by omega)]
      refine ⟨fun z => absurd z (nI_ge (b := 64) (by omega) (by omega)), fun _ => ⟨v1, fun z => skip (fun y => by rw [z] at y; exact absurd y.1 (by decide)), fun z => ?_⟩⟩
      have hg1 : g (192 + c) = 1 := (Gg.p.st c hc64).resolve_left z
      refine ⟨vc, fun z2 => ?_, fun z2 => skip (fun y => y.2 ⟨hg1, (hwi c hc64 hg1).mp z2⟩)⟩
      have hns : ¬ sickF g c := fun y => (hwi c hc64 hg1).mpr y.2 z2
      by_cases e : cn.l = 0
      · refine ⟨1, ?_⟩
        rw [w_X12_ends_p144_s]
        unfold w_X12_ends_p144_b
        rw [S3.f, hfr 1633 (by omega), Gg.n.l, e, nI_1]
        rw [if_pos e] at hmix
        refine ⟨fun z => absurd z (by decide), fun _ => ⟨fun _ => ih' _ _ fr fl F3 b1 b2 S3 (by rw [if_pos e]; exact hmix) hfr hfl, fun z => absurd (by decide) z⟩⟩
      · rw [if_neg e] at hmix ih'
        have hso := spC_o (bk := bk) (g := g) (n := c) (by omega)
        refine ⟨5, r_side (M := M3) (N := N3) G.b Gg.n.l e hc64 (wi := wi) hwi (fb := spC bk g c) ⟨spC_nl hl Gg.p.nl Gg.n.l c (by omega), fun i q1 q2 => hso.1 i q1 (by omega)⟩ (fun M4 N4 fr4 fl4 F4 c1 c2 S4 hm4 hf4 hl4 => ?_) 4 0 (by omega) M3 N3 fr fl FrM.rf b1 b2 S3 hmix hfr (fun n hn => by rw [b2])⟩
        refine ih' _ _ fr4 fl4 (F3.tr F4) c1 c2 S4 ?_ hf4 (fun n hn hn1 => ?_)
        · rw [hm4]
          show _ = pick _ _ _
          rw [pick_t ⟨hg1, hns⟩]
        · have : n ≠ c := fun e => hn1 (e ▸ hg1)
          rw [hl4 n this, b2]
          exact hfl n hn hn1
  refine key 64 0 (by omega) M2 N2 g (M2 (3, 0, 28)) (F1.tr F2) (by rw [a1, e27]) rfl S2 ?_ (fun _ _ => rfl) (fun n hn _ => by rw [a2]; exact h28 n hn)
  have em : mixF g (M2 (3, 0, 28)) = g := by
    funext i
    by_cases z : 320 ≤ i ∧ i < 384
    · have : i = 320 + (i - 320) := by omega
      rw [this, mixF_0 (by rw [a2]; exact h28 _ (by omega))]
    · rw [mixF_o z]
  rw [em]
  show g = if _ then g else g
  rw [ite_self]
end EM
