/-! ===== what a row of the log does: the reference ===== -/
section RD
variable {M M' : am_I} {N N' : am_N} {b : Nat} {bk : Bk} {cn full : Cn} {but : Nat → Nat → Prop} {f f' g : Nat → Int32} {fe lo : Int64} {W q w goal wh a bb c i : Nat} {post : am_I → am_N → Prop} {postI : Int32 → am_I → am_N → Prop} {x : Int32}
theorem does_BO (G : GoodF W cn f) (hr : RowOK cn wh a bb c) (hBO : BO cn but f) : BO (cnAdd cn wh) but (doesF bk but cn wh a bb c f) := by
  have h8 := G.b.2.1
  have h60 := G.b.2.2.1
  have same : (∀ q, q < 8 → but 1 q → doesF bk but cn wh a bb c f (976 + q) = f (976 + q)) → BO (cnAdd cn wh) but (doesF bk but cn wh a bb c f) := fun hs q hq hb => by
    have hcb := (G.b.add hr).2.1
    rw [hs q (by omega) hb]
    by_cases e : q < cn.c
    · exact hBO q e hb
    · exact (G.c.new q (by omega) (by omega)).1
  refine same (fun q hq hb => ?_)
  unfold doesF
  by_cases e0 : wh = 0
  · have := hr.l0 e0
    rw [if_pos e0, pk_un (by omega), pk_un (by omega)]
  rw [if_neg e0]
  by_cases e1 : wh = 1
  · rw [if_pos e1, pk_un (by omega)]
  rw [if_neg e1]
  by_cases e2 : wh = 2
  · rw [if_pos e2, pk_un (by omega)]
  rw [if_neg e2]
  by_cases e3 : wh = 3
  · have := hr.l3 e3
    rw [if_pos e3]
    unfold comesF
    rw [pk_un (by omega), pk_un (by omega), pk_un (by omega), pk_un (by omega)]
  rw [if_neg e3]
  by_cases e4 : wh = 4
  · have := hr.l4 e4
    rw [if_pos e4]
    unfold chargedF
    by_cases e : but 1 a ∨ ¬ f (976 + a) = 5
    · rw [pick_t e]
    · have : q ≠ a := fun z => e (Or.inl (z ▸ hb))
      rw [pick_f e, pk_un (by omega), pk_un (by omega)]
  rw [if_neg e4]
  by_cases e5 : wh = 5
  · rw [if_pos e5]
    unfold opensF
    rw [pk_un (by omega), pk_un (by omega), pk_un (by omega)]
  rw [if_neg e5]
  by_cases e6 : wh = 6
  · rw [if_pos e6, pk_un (by omega)]
  rw [if_neg e6]
  by_cases e7 : wh = 7
  · rw [if_pos e7, pk_un (by omega)]
  rw [if_neg e7]
  by_cases e8 : wh = 8
  · have := hr.l8 e8
    rw [if_pos e8]
    by_cases e : f (192 + a) = 0
    · rw [if_pos e, sowF_o (by omega) (by omega) (by omega) (by omega) (by omega) (by omega)]
    · rw [if_neg e]
  rw [if_neg e8]
  by_cases e9 : wh = 9
  · have := hr.l9 e9
    rw [if_pos e9, pk_un (by omega)]
  rw [if_neg e9]
  by_cases e10 : wh = 10
  · have := hr.l10 e10
    rw [if_pos e10, seenF_o (by omega) (by omega)]
  rw [if_neg e10]
  have := hr.l11 (by have := hr.le; omega)
  by_cases e : f (192 + a) = 1
  · rw [if_pos e, pk_un (by omega)]
  · rw [if_neg e]
/-- a row of the reference's log -/
def rowM (M : am_I) (i wh a b c : Nat) : Prop := M (3, 0, 3) i = nI wh ∧ (wh ≠ 6 → wh ≠ 7 → M (3, 0, 5) i = nI a) ∧ M (3, 0, 6) i = nI b ∧ M (3, 0, 7) i = nI c
theorem StM.kn {cn' : Cn} (S : StM bk cn but M N f fe lo) (hk : BkM M bk cn') : StM bk cn' but M N f fe lo := by
  refine ⟨?_, ?_, ?_, ?_, ?_⟩
  · exact hk
  · exact S.f
  · exact S.fe
  · exact S.lo
  · exact S.but
theorem r_does (S : StM bk cn but M N f fe lo) (hK : BkM M bk (cnAdd cn wh)) (G : GoodF W cn f) (hB : BkGood bk (cnAdd cn wh)) (hr : RowOK cn wh a bb c) (hi : i < 400) (hM : rowM M i wh a bb c) (h : ∀ M' N', FrM M N M' N' → StM bk (cnAdd cn wh) but M' N' (doesF bk but cn wh a bb c f) fe lo → post M' N') : w_X12_does (nI i) M N post := by
  have h8 := G.b.2.1
  have h60 := G.b.2.2.1
  have vi : vp_in (nI i) 400 := vp_in_nI hi (by omega)
  have S' : StM bk (cnAdd cn wh) but M N f fe lo := S.kn hK
  obtain ⟨m1, m2, m3, m4⟩ := hM
  have hle := hr.le
  have kq : ∀ n, n < 12 → (nI wh = nI n ↔ wh = n) := fun n hn => nI_eq (by omega) (by omega)
  have k0 : nI wh = 0 ↔ wh = 0 := kq 0 (by omega)
  have k1 : nI wh = 1 ↔ wh = 1 := kq 1 (by omega)
  have k2 : nI wh = 2 ↔ wh = 2 := kq 2 (by omega)
  have k3 : nI wh = 3 ↔ wh = 3 := kq 3 (by omega)
  have k4 : nI wh = 4 ↔ wh = 4 := kq 4 (by omega)
  have k5 : nI wh = 5 ↔ wh = 5 := kq 5 (by omega)
  have k6 : nI wh = 6 ↔ wh = 6 := kq 6 (by omega)
  have k7 : nI wh = 7 ↔ wh = 7 := kq 7 (by omega)
  have k8 : nI wh = 8 ↔ wh = 8 := kq 8 (by omega)
  have k9 : nI wh = 9 ↔ wh = 9 := kq 9 (by omega)
  have k10 : nI wh = 10 ↔ wh = 10 := kq 10 (by omega)
  unfold w_X12_does
  rw [nI_clamp (show i < 2 ^ 31 by omega), m1, m3]
  refine ⟨vi, fun v1 ev1 => ⟨vi, fun v2 ev2 => ⟨vi, ?_⟩⟩⟩
  subst ev2
  rw [k0, k1, k2, k3, k4, k5, k6, k7, k8, k9, k10]
  unfold doesF at h
  refine ⟨fun e => ?_, fun e => ?_, fun e => ?_, fun e => ?_, fun e => ?_, fun e => ?_, fun e => ?_, fun e => ?_, fun e => ?_, fun e => ?_, fun e => ?_, fun n0 n1 n2 n3 n4 n5 n6 n7 n8 n9 n10 => ?_⟩
  · obtain ⟨ha, hb, hc⟩ := hr.l0 e
    rw [m2 (by omega) (by omega)] at ev1
    subst ev1
    rw [if_pos e] at h
    have j1 : (0 + nI a).toNatClampNeg = a := by rw [z_add, nI_clamp (by omega)]
    have j2 : (64 + nI a).toNatClampNeg = 64 + a := by rw [ix64, nI_clamp (by omega)]
    rw [j1, j2, am_u_o M a (nI bb) (show ((3 : Nat), (0 : Nat), (7 : Nat)) ≠ (3, 0, 1) by simp), m4]
    exact ⟨by rw [z_add]; exact vp_in_nI (by omega) (by omega), vi, by rw [ix64]; exact vp_in_nI (by omega) (by omega), h _ _ (FrM.u.tr FrM.u) ((S'.u _ _).u _ _)⟩
  · obtain ⟨ha, hb⟩ := hr.l1 e
    rw [m2 (by omega) (by omega)] at ev1
    subst ev1
    rw [if_neg (by omega), if_pos e] at h
    have j1 : (1626 + nI a).toNatClampNeg = 1626 + a := by rw [ix1626, nI_clamp (by omega)]
    rw [j1]
    exact ⟨by rw [ix1626]; exact vp_in_nI (by omega) (by omega), h _ _ FrM.u (S'.u _ _)⟩
  · rw [if_neg (by omega), if_neg (by omega), if_pos e] at h
    rw [S.f]
    exact h _ _ FrM.u (S'.u _ _)
  · obtain ⟨ha, hb⟩ := hr.l3 e
    rw [m2 (by omega) (by omega)] at ev1
    subst ev1
    rw [if_neg (by omega), if_neg (by omega), if_neg (by omega), if_pos e] at h
    have hac : a < (cnAdd cn wh).c := by rw [cnAdd_c, if_pos e]; omega
    have j0 : vp_in (nI a) 8 := vp_in_nI (by omega) (by omega)
    have j1 : (960 + nI a).toNatClampNeg = 960 + a := by rw [ix960, nI_clamp (by omega)]
    have j2 : (968 + nI a).toNatClampNeg = 968 + a := by rw [ix968, nI_clamp (by omega)]
    have j3 : (984 + nI a).toNatClampNeg = 984 + a := by rw [ix984, nI_clamp (by omega)]
    unfold w_X12_comes
    rw [j1, j2, j3, nI_clamp (show a < 2 ^ 31 by omega), (hK.c a hac).2.2.2.1]
    have S1 := S'.u (960 + a) (nI (bk.cH a))
    rw [(S1.k.c a hac).2.2.2.2]
    have S3 := (S1.u (968 + a) (nI (bk.cU a))).u (984 + a) (-1)
    rw [S3.f, pk_un (show 1631 ≠ 984 + a by omega), pk_un (show 1631 ≠ 968 + a by omega), pk_un (show 1631 ≠ 960 + a by omega)]
    exact ⟨j0, by rw [ix960]; exact vp_in_nI (by omega) (by omega), j0, by rw [ix968]; exact vp_in_nI (by omega) (by omega), by rw [ix984]; exact vp_in_nI (by omega) (by omega), h _ _ (FrM.u.tr (FrM.u.tr (FrM.u.tr FrM.u))) (S3.u _ _)⟩
  · have ha := hr.l4 e
    rw [m2 (by omega) (by omega)] at ev1
    subst ev1
    rw [if_neg (by omega), if_neg (by omega), if_neg (by omega), if_neg (by omega), if_pos e] at h
    have j0 : vp_in (nI a) 8 := vp_in_nI (by omega) (by omega)
    have j1 : (976 + nI a).toNatClampNeg = 976 + a := by rw [ix976, nI_clamp (by omega)]
    have j2 : (968 + nI a).toNatClampNeg = 968 + a := by rw [ix968, nI_clamp (by omega)]
    have v1 : vp_in (976 + nI a) 1635 := by rw [ix976]; exact vp_in_nI (by omega) (by omega)
    have v2 : vp_in (968 + nI a) 1635 := by rw [ix968]; exact vp_in_nI (by omega) (by omega)
    have hb : (M (3, 0, 0) 30 = 1 ∧ M (3, 0, 0) 31 = nI a) ↔ but 1 a := S.but 1 a (by omega) (by omega)
    unfold w_X12_charged
    refine eq_X12_isBut.mpr ?_
    rw [j1, j2, nI_clamp (show a < 2 ^ 31 by omega), S.f, (S.k.c a ha).2.2.2.2]
    unfold chargedF at h
    by_cases z : but 1 a
    · rw [am_bt (hb.mpr z)]
      rw [pick_t (Or.inl z)] at h
      exact ⟨fun _ => h _ _ FrM.rf S', fun y => absurd y (by decide)⟩
    · rw [am_bf (fun y => z (hb.mp y))]
      refine ⟨fun y => absurd rfl y, fun _ => ⟨v1, fun y => ⟨j0, v2, v1, ?_⟩, fun y => ?_⟩⟩
      · rw [pick_f (fun y2 => y2.elim z (fun y3 => y3 y))] at h
        exact h _ _ (FrM.u.tr FrM.u) ((S'.u _ _).u _ _)
      · rw [pick_t (Or.inr y)] at h
        exact h _ _ FrM.rf S'
  · obtain ⟨ha, hb⟩ := hr.l5 e
    rw [m2 (by omega) (by omega)] at ev1
    subst ev1
    rw [if_neg (by omega), if_neg (by omega), if_neg (by omega), if_neg (by omega), if_neg (by omega), if_pos e] at h
    have j1 : (1504 + nI a).toNatClampNeg = 1504 + a := by rw [ix1504, nI_clamp (by omega)]
    have j2 : (1564 + nI a).toNatClampNeg = 1564 + a := by rw [ix1564, nI_clamp (by omega)]
    have v1 : vp_in (1504 + nI a) 1635 := by rw [ix1504]; exact vp_in_nI (by omega) (by omega)
    have v2 : vp_in (1564 + nI a) 1635 := by rw [ix1564]; exact vp_in_nI (by omega) (by omega)
    have hbt : (M (3, 0, 0) 30 = 2 ∧ M (3, 0, 0) 31 = nI a) ↔ but 2 a := S.but 2 a (by omega) (by omega)
    have fin : ∀ s0 : Int32, stat (but 2 a) = s0 → w_X12_does_p175 post (nI a) s0 (1504 + nI a) M N := by
      intro s0 hs
      unfold w_X12_does_p175
      rw [j1, j2]
      have S2 := (S'.u (1504 + a) s0).u (1564 + a) (-1)
      rw [S2.f, pk_un (show 1632 ≠ 1564 + a by omega), pk_un (show 1632 ≠ 1504 + a by omega)]
      unfold opensF at h
      rw [hs] at h
      exact ⟨v1, v2, h _ _ (FrM.u.tr (FrM.u.tr FrM.u)) (S2.u _ _)⟩
    refine eq_X12_isBut.mpr ?_
    by_cases z : but 2 a
    · rw [am_bt (hbt.mpr z)]
      exact ⟨fun y => absurd y (by decide), fun _ => fin 3 (if_pos z)⟩
    · rw [am_bf (fun y => z (hbt.mp y))]
      exact ⟨fun _ => fin 0 (if_neg z), fun y => absurd rfl y⟩
  · rw [if_neg (by omega), if_neg (by omega), if_neg (by omega), if_neg (by omega), if_neg (by omega), if_neg (by omega), if_pos e] at h
    rw [S.f]
    exact h _ _ FrM.u (S'.u _ _)
  · rw [if_neg (by omega), if_neg (by omega), if_neg (by omega), if_neg (by omega), if_neg (by omega), if_neg (by omega), if_neg (by omega), if_pos e] at h
    rw [S.f]
    exact h _ _ FrM.u (S'.u _ _)
  · obtain ⟨ha, hk⟩ := hr.l8 e
    have hk5 := G.b.2.2.2.2
    rw [m2 (by omega) (by omega)] at ev1
    subst ev1
    rw [if_neg (by omega), if_neg (by omega), if_neg (by omega), if_neg (by omega), if_neg (by omega), if_neg (by omega), if_neg (by omega), if_neg (by omega), if_pos e] at h
    have j1 : (192 + nI a).toNatClampNeg = 192 + a := by rw [ix192, nI_clamp (by omega)]
    have v1 : vp_in (192 + nI a) 1635 := by rw [ix192]; exact vp_in_nI (by omega) (by omega)
    rw [j1, S.f]
    refine ⟨v1, fun y => ?_, fun y => ?_⟩
    · rw [if_neg y] at h
      exact h _ _ FrM.rf S'
    · rw [if_pos y] at h
      refine sp_X12_grows (pr := bk.pr) ha hk5 hk (by rw [S.f]; exact G.n.k) (fun k hk => ⟨(S.k.k k hk).1, ?_⟩) ?_
      · exact (hB.k k (by rw [cnAdd_k]; omega)).1
      · rw [S.f]
        exact h _ _ (FrM.s _) (S'.nf _)
  · obtain ⟨ha, hb⟩ := hr.l9 e
    rw [m2 (by omega) (by omega)] at ev1
    subst ev1
    rw [if_neg (by omega), if_neg (by omega), if_neg (by omega), if_neg (by omega), if_neg (by omega), if_neg (by omega), if_neg (by omega), if_neg (by omega), if_neg (by omega), if_pos e] at h
    have j1 : (512 + nI a).toNatClampNeg = 512 + a := by rw [ix512, nI_clamp (by omega)]
    rw [j1]
    exact ⟨by rw [ix512]; exact vp_in_nI (by omega) (by omega), h _ _ FrM.u (S'.u _ _)⟩
  · obtain ⟨ha, hb⟩ := hr.l10 e
    rw [m2 (by omega) (by omega)] at ev1
    subst ev1
    rw [if_neg (by omega), if_neg (by omega), if_neg (by omega), if_neg (by omega), if_neg (by omega), if_neg (by omega), if_neg (by omega), if_neg (by omega), if_neg (by omega), if_neg (by omega), if_pos e] at h
    rw [cnAdd_o (by omega)] at h
    exact r_seen S G ha h
  · have e : wh = 11 := by omega
    obtain ⟨ha, hb⟩ := hr.l11 e
    rw [m2 (by omega) (by omega)] at ev1
    subst ev1
    rw [if_neg n0, if_neg n1, if_neg n2, if_neg n3, if_neg n4, if_neg n5, if_neg n6, if_neg n7, if_neg n8, if_neg n9, if_neg n10] at h
    have j1 : (192 + nI a).toNatClampNeg = 192 + a := by rw [ix192, nI_clamp (by omega)]
    have v1 : vp_in (192 + nI a) 1635 := by rw [ix192]; exact vp_in_nI (by omega) (by omega)
    have j2 : (320 + nI a).toNatClampNeg = 320 + a := by rw [ix320, nI_clamp (by omega)]
    have v2 : vp_in (320 + nI a) 1635 := by rw [ix320]; exact vp_in_nI (by omega) (by omega)
    rw [j1, j2, S.f]
    refine ⟨v1, fun y => ?_, fun y => ⟨v2, ?_⟩⟩
    · rw [if_neg y] at h
      exact h _ _ FrM.rf S'
    · rw [if_pos y] at h
      exact h _ _ FrM.u (S'.u _ _)
end RD
