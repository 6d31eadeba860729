/-! ===== small steps of carts, both sides ===== -/
theorem upd_id {f : Nat → Int32} {k : Nat} {x : Int32} (h : f k = x) : upd f k x = f := by
  funext i
  by_cases e : i = k
  · subst e; rw [pk_us, h]
  · rw [pk_un e]
def givesX (bk : Bk) (f : Nat → Int32) (q : Nat) : Int32 := if f (968 + q) + 10 < nI (bk.cU q) then f (968 + q) + 10 else nI (bk.cU q)
def givesF (bk : Bk) (f : Nat → Int32) (q : Nat) : Nat → Int32 := upd (upd f (968 + q) (givesX bk f q)) (976 + q) (if givesX bk f q = nI (bk.cU q) then 0 else 3)
def dropsF (f : Nat → Int32) (q : Nat) : Nat → Int32 := if f (984 + q) = -1 then f else upd (upd (upd f (1504 + (f (984 + q)).toNatClampNeg) 0) (1564 + (f (984 + q)).toNatClampNeg) (-1)) (984 + q) (-1)
def itsOK (cn : Cn) (f : Nat → Int32) (q : Nat) : Prop := f (984 + q) = -1 ∨ ∃ w, w < cn.w ∧ f (984 + q) = nI w
section CT
variable {M M' : am_I} {N N' : am_N} {b : Nat} {bk : Bk} {cn full : Cn} {but : Nat → Nat → Prop} {f f' : Nat → Int32} {fe lo : Int64} {W q c w : Nat} {x : Int32} {post : am_I → am_N → Prop} {postI : Int32 → am_I → am_N → Prop}
theorem StM.u (S : StM bk cn but M N f fe lo) (k : Nat) (x : Int32) : StM bk cn but (am_u M (3, 0, 1) k x) N (upd f k x) fe lo := by
  have h := S.nf (upd f k x)
  unfold am_u
  rw [S.f]
  exact h
theorem FrM.u {k : Nat} {x : Int32} : FrM M N (am_u M (3, 0, 1) k x) N := FrM.s _
theorem GoodF.its (G : GoodF W cn f) (hq : q < cn.c) : itsOK cn f q := by
  by_cases e : f (976 + q) = 1
  · exact Or.inr (G.c.it1 q hq e)
  · exact Or.inl (G.c.it0 q hq e)
theorem r_gives (S : StM bk cn but M N f fe lo) (hcb : CnB cn) (hq : q < cn.c) (h : ∀ M' N', FrM M N M' N' → StM bk cn but M' N' (givesF bk f q) fe lo → post M' N') : w_X12_gives (nI q) M N post := by
  have h8 := hcb.2.1
  have i1 : (968 + nI q).toNatClampNeg = 968 + q := by rw [ix968, nI_clamp (by omega)]
  have i2 : (976 + nI q).toNatClampNeg = 976 + q := by rw [ix976, nI_clamp (by omega)]
  have v1 : vp_in (968 + nI q) 1635 := by rw [ix968]; exact vp_in_nI (by omega) (by omega)
  have v2 : vp_in (976 + nI q) 1635 := by rw [ix976]; exact vp_in_nI (by omega) (by omega)
  have v0 : vp_in (nI q) 8 := vp_in_nI (by omega) (by omega)
  unfold w_X12_gives
  refine ⟨v0, v1, eq_J9_min.mpr ?_⟩
  rw [i1, i2, nI_clamp (show q < 2 ^ 31 by omega), S.f, (S.k.c q hq).2.2.2.2]
  show vp_in (968 + nI q) 1635 ∧ vp_in (968 + nI q) 1635 ∧ vp_in (nI q) 8 ∧ ((¬ am_u M (3, 0, 1) (968 + q) (givesX bk f q) (3, 0, 1) (968 + q) = am_u M (3, 0, 1) (968 + q) (givesX bk f q) (3, 0, 15) q → vp_in (976 + nI q) 1635 ∧ post (am_u (am_u M (3, 0, 1) (968 + q) (givesX bk f q)) (3, 0, 1) (976 + q) 3) N) ∧ (am_u M (3, 0, 1) (968 + q) (givesX bk f q) (3, 0, 1) (968 + q) = am_u M (3, 0, 1) (968 + q) (givesX bk f q) (3, 0, 15) q → vp_in (976 + nI q) 1635 ∧ post (am_u (am_u M (3, 0, 1) (968 + q) (givesX bk f q)) (3, 0, 1) (976 + q) 0) N))
  have S1 := S.u (968 + q) (givesX bk f q)
  refine ⟨v1, v1, v0, ?_⟩
  rw [S1.f, (S1.k.c q hq).2.2.2.2, pk_us]
  refine ⟨fun z => ⟨v2, h _ _ (FrM.u.tr FrM.u) ?_⟩, fun z => ⟨v2, h _ _ (FrM.u.tr FrM.u) ?_⟩⟩
  · have S2 := S1.u (976 + q) 3
    unfold givesF
    rw [if_neg z]
    exact S2
  · have S2 := S1.u (976 + q) 0
    unfold givesF
    rw [if_pos z]
    exact S2
theorem c_plugIn (S : StC b bk cn full but M N f fe lo) (hcb : CnB cn) (hq : q < cn.c) (hnb : ¬ but 1 q) (h : ∀ M' N', Fr b M N M' N' → StC b bk cn full but M' N' (givesF bk f q) fe lo → post M' N') : w_X1_plugIn b (nI q) M N post := by
  have h8 := hcb.2.1
  have hle := S.k.le.2.1
  have v0 : vp_in (nI q) 8 := vp_in_nI (by omega) (by omega)
  unfold w_X1_plugIn
  refine sp_at (w := 5) (c := 4) S.k.t2 (by omega) (by omega) ?_
  rw [(S.k.c q hq).2.2.2.2]
  refine ⟨v0, eq_J9_min.mpr ?_⟩
  rw [nI_clamp (show q < 2 ^ 31 by omega), (S.w.c.on q hq hnb).2.1]
  show vp_in (nI q) 8 ∧ vp_in (nI q) 8 ∧ ((¬ am_u M (1, b, 16) q (givesX bk f q) (1, b, 16) q = nI (bk.cU q) → vp_in (nI q) 8 ∧ post (am_u (am_u M (1, b, 16) q (givesX bk f q)) (1, b, 17) q 3) N) ∧ (am_u M (1, b, 16) q (givesX bk f q) (1, b, 16) q = nI (bk.cU q) → vp_in (nI q) 8 ∧ post (am_u (am_u M (1, b, 16) q (givesX bk f q)) (1, b, 17) q 0) N))
  rw [am_u_c, pk_us]
  refine ⟨v0, v0, fun z => ⟨v0, ?_⟩, fun z => ⟨v0, ?_⟩⟩
  · have F : Fr b M N (am_u (am_u M (1, b, 16) q (givesX bk f q)) (1, b, 17) q 3) N := (Fr.u (by decide) _).tr (Fr.u (by decide) _)
    refine h _ _ F (S.nx F ?_)
    unfold givesF
    rw [if_neg z]
    exact (S.w.u16 hcb hq _).u17 hcb hq hnb _
  · have F : Fr b M N (am_u (am_u M (1, b, 16) q (givesX bk f q)) (1, b, 17) q 0) N := (Fr.u (by decide) _).tr (Fr.u (by decide) _)
    refine h _ _ F (S.nx F ?_)
    unfold givesF
    rw [if_pos z]
    exact (S.w.u16 hcb hq _).u17 hcb hq hnb _
theorem givesF_good (G : GoodF W cn f) (hq : q < cn.c) (h1 : ¬ f (976 + q) = 1) : GoodF W cn (givesF bk f q) := by
  have h8 := G.b.2.1
  unfold givesF
  refine G.putC (fun i hi => ?_) (G.c.one h8 hq (fun i a1 a2 a3 a4 a5 a6 => ?_) ?_ ?_ ?_ ?_)
  · rw [pk_un (by omega), pk_un (by omega)]
  · rw [pk_un (by omega), pk_un (by omega)]
  · rw [pk_un (by omega), pk_un (by omega)]; exact G.c.sp q hq
  · rw [pk_us]
    by_cases e : givesX bk f q = nI (bk.cU q)
    · rw [if_pos e]; decide
    · rw [if_neg e]; decide
  · rw [pk_us]
    intro z
    by_cases e : givesX bk f q = nI (bk.cU q)
    · rw [if_pos e] at z; exact absurd z (by decide)
    · rw [if_neg e] at z; exact absurd z (by decide)
  · intro _
    rw [pk_un (by omega), pk_un (by omega)]; exact G.c.it0 q hq h1
theorem r_drops (S : StM bk cn but M N f fe lo) (hcb : CnB cn) (hq : q < cn.c) (hi : itsOK cn f q) (h : ∀ M' N', FrM M N M' N' → StM bk cn but M' N' (dropsF f q) fe lo → post M' N') : w_X12_drops (nI q) M N post := by
  have h8 := hcb.2.1
  have h60 := hcb.2.2.1
  have i1 : (984 + nI q).toNatClampNeg = 984 + q := by rw [ix984, nI_clamp (by omega)]
  have v1 : vp_in (984 + nI q) 1635 := by rw [ix984]; exact vp_in_nI (by omega) (by omega)
  unfold w_X12_drops
  rw [i1, S.f]
  refine ⟨v1, fun v ev => ?_⟩
  unfold dropsF at h
  cases hi with
  | inl e =>
    rw [if_pos e] at h
    rw [e] at ev
    exact ⟨fun z => absurd ev z, fun _ => h _ _ FrM.rf S⟩
  | inr e =>
    obtain ⟨w, hw, e⟩ := e
    rw [e, if_neg (nI_ne_m1 (by omega)), nI_clamp (by omega)] at h
    rw [e] at ev
    subst ev
    have i2 : (1504 + nI w).toNatClampNeg = 1504 + w := by rw [ix1504, nI_clamp (by omega)]
    have i3 : (1564 + nI w).toNatClampNeg = 1564 + w := by rw [ix1564, nI_clamp (by omega)]
    have v2 : vp_in (1504 + nI w) 1635 := by rw [ix1504]; exact vp_in_nI (by omega) (by omega)
    have v3 : vp_in (1564 + nI w) 1635 := by rw [ix1564]; exact vp_in_nI (by omega) (by omega)
    rw [i2, i3]
    exact ⟨fun _ => ⟨v2, v3, v1, h _ _ (FrM.u.tr (FrM.u.tr FrM.u)) (((S.u _ _).u _ _).u _ _)⟩, fun z => absurd z (nI_ne_m1 (by omega))⟩
theorem c_leaveWork (S : StC b bk cn full but M N f fe lo) (hcb : CnB cn) (hq : q < cn.c) (hnb : ¬ but 1 q) (hi : itsOK cn f q) {d : Int32} (h : ∀ M' N', Fr b M N M' N' → StC b bk cn full but M' N' (upd (dropsF f q) (976 + q) d) fe lo → post M' N') : w_X10_leaveWork b (nI q) d M N post := by
  have h8 := hcb.2.1
  have h60 := hcb.2.2.1
  have v0 : vp_in (nI q) 8 := vp_in_nI (by omega) (by omega)
  unfold w_X10_leaveWork w_X10_leaveWork_p34
  rw [nI_clamp (show q < 2 ^ 31 by omega), (S.w.c.on q hq hnb).2.2.2]
  refine ⟨v0, fun v ev => eq_X11_within.mpr ?_⟩
  unfold dropsF at h
  cases hi with
  | inl e =>
    rw [if_pos e] at h
    rw [e] at ev
    subst ev
    rw [am_bf (by decide)]
    refine ⟨fun _ => ⟨v0, v0, ?_⟩, fun z => absurd rfl z⟩
    have F : Fr b M N (am_u (am_u M (1, b, 18) q (-1)) (1, b, 17) q d) N := (Fr.u (by decide) _).tr (Fr.u (by decide) _)
    refine h _ _ F (S.nx F ?_)
    have R := (S.w.u18 hcb hq (-1)).u17 hcb hq hnb d
    rw [upd_id e] at R
    exact R
  | inr e =>
    obtain ⟨w, hw, e⟩ := e
    rw [e, if_neg (nI_ne_m1 (by omega)), nI_clamp (by omega)] at h
    rw [e] at ev
    subst ev
    have vw : vp_in (nI w) 60 := vp_in_nI (by omega) (by omega)
    rw [am_bt ⟨nI_pos' (by omega), nI_le (b := 59) (by omega) (by omega)⟩, nI_clamp (show w < 2 ^ 31 by omega)]
    refine ⟨fun z => absurd z (by decide), fun _ => ⟨vw, vw, v0, v0, ?_⟩⟩
    have F : Fr b M N (am_u (am_u (am_u (am_u M (1, b, 20) w 0) (1, b, 21) w (-1)) (1, b, 18) q (-1)) (1, b, 17) q d) N := (Fr.u (by decide) _).tr ((Fr.u (by decide) _).tr ((Fr.u (by decide) _).tr (Fr.u (by decide) _)))
    exact h _ _ F (S.nx F ((((S.w.u20 hcb hw 0).u21 hcb hw (-1)).u18 hcb hq (-1)).u17 hcb hq hnb d))
theorem dropsF_o {i : Nat} (h60 : cn.w ≤ 60) (hi : itsOK cn f q) (h1 : i ≠ 984 + q) (h2 : ¬ (1504 ≤ i ∧ i < 1624)) : dropsF f q i = f i := by
  unfold dropsF
  cases hi with
  | inl e => rw [if_pos e]
  | inr e =>
    obtain ⟨w, hw, e⟩ := e
    rw [e, if_neg (nI_ne_m1 (by omega)), nI_clamp (by omega), pk_un h1, pk_un (by omega), pk_un (by omega)]
theorem dropsF_its (hi : itsOK cn f q) : dropsF f q (984 + q) = -1 := by
  unfold dropsF
  cases hi with
  | inl e => rw [if_pos e]; exact e
  | inr e =>
    by_cases z : f (984 + q) = -1
    · rw [if_pos z]; exact z
    · rw [if_neg z, pk_us]
theorem leaveF_good (G : GoodF W cn f) (hq : q < cn.c) {d : Int32} (h6 : ¬ d = 6) (h1 : ¬ d = 1) : GoodF W cn (upd (dropsF f q) (976 + q) d) := by
  have h8 := G.b.2.1
  have h60 := G.b.2.2.1
  have hi := G.its hq
  have G1 : GoodF W cn (upd (upd f (976 + q) d) (984 + q) (-1)) := by
    refine G.putC (fun i hi => ?_) (G.c.one h8 hq (fun i a1 a2 a3 a4 a5 a6 => ?_) ?_ ?_ ?_ ?_)
    · rw [pk_un (by omega), pk_un (by omega)]
    · rw [pk_un (by omega), pk_un (by omega)]
    · rw [pk_un (by omega), pk_un (by omega)]; exact G.c.sp q hq
    · rw [pk_un (by omega), pk_us]; exact h6
    · rw [pk_un (by omega), pk_us]; exact fun z => absurd z h1
    · intro _; rw [pk_us]
  refine G1.putK (fun i hi2 => ?_)
  by_cases e1 : i = 976 + q
  · subst e1; rw [pk_us, pk_un (by omega), pk_us]
  · rw [pk_un e1]
    by_cases e2 : i = 984 + q
    · subst e2; rw [dropsF_its hi, pk_us]
    · rw [dropsF_o h60 hi e2 (by omega), pk_un e2, pk_un e1]
theorem c_hasPower (S : StC b bk cn full but M N f fe lo) (hcb : CnB cn) (hq : q < cn.c) (hnb : ¬ but 1 q) (h0 : 4 * f (968 + q) < nI (bk.cU q) → postI 0 M N) (h1 : ¬ 4 * f (968 + q) < nI (bk.cU q) → postI 1 M N) : w_X1_hasPower b (nI q) M N postI := by
  have h8 := hcb.2.1
  have hle := S.k.le.2.1
  have v0 : vp_in (nI q) 8 := vp_in_nI (by omega) (by omega)
  unfold w_X1_hasPower
  refine ⟨v0, sp_at (w := 5) (c := 4) S.k.t2 (by omega) (by omega) ?_⟩
  rw [(S.k.c q hq).2.2.2.2, nI_clamp (show q < 2 ^ 31 by omega), (S.w.c.on q hq hnb).2.1]
  exact ⟨h0, h1⟩
theorem c_isHome (S : StC b bk cn full but M N f fe lo) (hcb : CnB cn) (hq : q < cn.c) (hnb : ¬ but 1 q) (h0 : ¬ f (960 + q) = nI (bk.cH q) → postI 0 M N) (h1 : f (960 + q) = nI (bk.cH q) → postI 1 M N) : w_X1_isHome b (nI q) M N postI := by
  have h8 := hcb.2.1
  have hle := S.k.le.2.1
  have v0 : vp_in (nI q) 8 := vp_in_nI (by omega) (by omega)
  unfold w_X1_isHome
  refine ⟨v0, sp_at (w := 5) (c := 3) S.k.t2 (by omega) (by omega) ?_⟩
  rw [(S.k.c q hq).2.2.2.1, nI_clamp (show q < 2 ^ 31 by omega), (S.w.c.on q hq hnb).1]
  exact ⟨h0, h1⟩
theorem far_0 : ∀ a, a < 64 → ∀ c, c < 64 → (am_far (nI a) (nI c) = 0 ↔ a = c) := by decide +kernel
theorem c_isAtWork (S : StC b bk cn full but M N f fe lo) (G : GoodF W cn f) (hB : BkGood bk cn) (hq : q < cn.c) (hnb : ¬ but 1 q) (hw : w < cn.w) (h0 : ¬ GoalN (bk.wC w) (besK (bk.wK w)) (spN f q) → postI 0 M N) (h1 : GoalN (bk.wC w) (besK (bk.wK w)) (spN f q) → postI 1 M N) : w_X10_isAtWork b (nI q) (nI w) M N postI := by
  have h8 := G.b.2.1
  have hle := S.k.le.2.2.1
  have v0 : vp_in (nI q) 8 := vp_in_nI (by omega) (by omega)
  obtain ⟨s64, es⟩ := G.sp hq
  have hk := (hB.w w hw).1
  have hc := (hB.w w hw).2.1
  unfold w_X10_isAtWork
  refine ⟨v0, sp_at (w := 3) (c := 1) S.k.t3 (by omega) (by omega) ?_⟩
  rw [(S.k.w w hw).2.1, nI_clamp (show q < 2 ^ 31 by omega), (S.w.c.on q hq hnb).1, es]
  refine eq_X11_far.mpr (sp_at (w := 3) (c := 0) S.k.t3 (by omega) (by omega) ?_)
  rw [(S.k.w w hw).1]
  refine ⟨fun z => ?_, fun z => ?_⟩
  · have e : besK (bk.wK w) = 0 := if_neg (fun e => z (by rw [e]; rfl))
    have hG : GoalN (bk.wC w) (besK (bk.wK w)) (spN f q) ↔ spN f q = bk.wC w := by
      unfold GoalN
      rw [e, if_pos rfl]
      exact ⟨fun z => z.2, fun z => ⟨s64, z⟩⟩
    rw [hG] at h0 h1
    rw [far_0 _ s64 _ hc]
    exact ⟨h0, h1⟩
  · have e : besK (bk.wK w) = 1 := if_pos ((nI_eq (b := 3) (by omega) (by omega)).mp z)
    have hG : GoalN (bk.wC w) (besK (bk.wK w)) (spN f q) ↔ ∃ k, k < 4 ∧ besN (spN f q) k = some (bk.wC w) := by
      unfold GoalN
      rw [e, if_neg (by decide)]
      exact ⟨fun z => z.2, fun z => ⟨s64, z⟩⟩
    rw [hG] at h0 h1
    rw [far_bes _ s64 _ hc]
    exact ⟨h0, h1⟩
end CT
