/-! ===== pulling out, hearing of, doing a work: both sides ===== -/
def BO (cn : Cn) (but : Nat → Nat → Prop) (f : Nat → Int32) : Prop := ∀ q, q < cn.c → but 1 q → f (976 + q) = 0
def pullR (f : Nat → Int32) (q c : Nat) : Nat → Nat → Nat → Int32
  | 0, _ => f
  | j + 1, o => if f (976 + o) = 4 ∧ f (960 + o) = nI c then upd (upd f (960 + o) (f (960 + q))) (976 + o) 0 else pullR f q c j (o + 1)
def pullsF (cn : Cn) (f : Nat → Int32) (q c : Nat) : Nat → Int32 := pullR f q c cn.c 0
noncomputable def heardF (but : Nat → Nat → Prop) (f : Nat → Int32) (c : Nat) : Nat → Nat → Int32
  | 0 => f
  | n + 1 => @ite (Nat → Int32) (¬ but 1 n ∧ ¬ f 1629 < am_far (f (960 + n)) (nI c)) (Classical.propDecidable _) (upd (heardF but f c n) (992 + 64 * n + c) 1) (heardF but f c n)
theorem heardF_t {but : Nat → Nat → Prop} {f : Nat → Int32} {c n : Nat} (h : ¬ but 1 n ∧ ¬ f 1629 < am_far (f (960 + n)) (nI c)) : heardF but f c (n + 1) = upd (heardF but f c n) (992 + 64 * n + c) 1 := by
  conv => lhs; unfold heardF
  exact if_pos h
theorem heardF_f {but : Nat → Nat → Prop} {f : Nat → Int32} {c n : Nat} (h : ¬ (¬ but 1 n ∧ ¬ f 1629 < am_far (f (960 + n)) (nI c))) : heardF but f c (n + 1) = heardF but f c n := by
  conv => lhs; unfold heardF
  exact if_neg h
theorem heardF_o {but : Nat → Nat → Prop} {f : Nat → Int32} {c i : Nat} (hc : c < 64) : ∀ n, n ≤ 8 → (i < 992 ∨ 1504 ≤ i ∨ ∀ o, o < n → i ≠ 992 + 64 * o + c) → heardF but f c n i = f i
  | 0, _, _ => rfl
  | n + 1, h8, hi => by
    have ih := heardF_o (but := but) (f := f) hc n (by omega) (by
      rcases hi with h | h | h
      · exact Or.inl h
      · exact Or.inr (Or.inl h)
      · exact Or.inr (Or.inr (fun o ho => h o (by omega))))
    by_cases e : ¬ but 1 n ∧ ¬ f 1629 < am_far (f (960 + n)) (nI c)
    · rw [heardF_t e, pk_un, ih]
      rcases hi with h | h | h
      · omega
      · omega
      · exact h n (by omega)
    · rw [heardF_f e, ih]
theorem heardF_01 {but : Nat → Nat → Prop} {f : Nat → Int32} {c i : Nat} (hi : f i = 0 ∨ f i = 1) : ∀ n, heardF but f c n i = 0 ∨ heardF but f c n i = 1
  | 0 => hi
  | n + 1 => by
    by_cases e : ¬ but 1 n ∧ ¬ f 1629 < am_far (f (960 + n)) (nI c)
    · rw [heardF_t e]
      by_cases e2 : i = 992 + 64 * n + c
      · subst e2; rw [pk_us]; exact Or.inr rfl
      · rw [pk_un e2]; exact heardF_01 hi n
    · rw [heardF_f e]; exact heardF_01 hi n
def workE (bk : Bk) (cn : Cn) (f : Nat → Int32) (q w : Nat) : Nat → Int32 :=
  if bk.wK w = 0 then seenF bk f (bk.wC w) (f (512 + bk.wC w)) else if bk.wK w = 1 then dieI f (bk.wC w) 2 else if bk.wK w = 2 then gotF f (bk.wC w) (nI (bk.wM w)) else pullsF cn f q (bk.wC w)
def worksF (bk : Bk) (cn : Cn) (f : Nat → Int32) (q w : Nat) : Nat → Int32 := upd (upd (upd (workE bk cn f q w) (1504 + w) 2) (984 + q) (-1)) (976 + q) 0
section WO
variable {M M' : am_I} {N N' : am_N} {b : Nat} {bk : Bk} {cn full : Cn} {but : Nat → Nat → Prop} {f f' : Nat → Int32} {fe lo : Int64} {W q c w : Nat} {x why marks : Int32} {post : am_I → am_N → Prop} {postI : Int32 → am_I → am_N → Prop}
theorem pullR_is : ∀ (j o : Nat), pullR f q c j o = f ∨ ∃ p, o ≤ p ∧ p < o + j ∧ f (976 + p) = 4 ∧ pullR f q c j o = upd (upd f (960 + p) (f (960 + q))) (976 + p) 0
  | 0, o => Or.inl rfl
  | j + 1, o => by
    unfold pullR
    by_cases e : f (976 + o) = 4 ∧ f (960 + o) = nI c
    · rw [if_pos e]
      exact Or.inr ⟨o, Nat.le_refl _, by omega, e.1, rfl⟩
    · rw [if_neg e]
      cases pullR_is j (o + 1) with
      | inl h => exact Or.inl h
      | inr h =>
        obtain ⟨p, h1, h2, h3⟩ := h
        exact Or.inr ⟨p, by omega, by omega, h3⟩
theorem r_pulls (S : StM bk cn but M N f fe lo) (hcb : CnB cn) (hn : GN cn f) (hq : q < cn.c) (hc : c < 64) (h : ∀ M' N', FrM M N M' N' → StM bk cn but M' N' (pullsF cn f q c) fe lo → post M' N') : w_X12_pulls (nI q) (nI c) M N post := by
  have h8 := hcb.2.1
  unfold w_X12_pulls
  refine ⟨cn.c + 1, ?_⟩
  have key : ∀ (j o : Nat), o + j = cn.c → (∀ M' N', FrM M N M' N' → StM bk cn but M' N' (pullR f q c j o) fe lo → post M' N') → w_X12_pulls_p2 post (j + 1) (nI q) (nI c) (nI o) M N := by
    intro j
    induction j with
    | zero =>
      intro o ho hp
      rw [w_X12_pulls_p2_s]
      unfold w_X12_pulls_p2_b
      rw [S.f, hn.c]
      exact ⟨fun _ => hp _ _ FrM.rf S, fun z => absurd (nI_le (by omega) (by omega)) z⟩
    | succ j ih =>
      intro o ho hp
      have i1 : (976 + nI o).toNatClampNeg = 976 + o := by rw [ix976, nI_clamp (by omega)]
      have i2 : (960 + nI o).toNatClampNeg = 960 + o := by rw [ix960, nI_clamp (by omega)]
      have i3 : (960 + nI q).toNatClampNeg = 960 + q := by rw [ix960, nI_clamp (by omega)]
      have v1 : vp_in (976 + nI o) 1635 := by rw [ix976]; exact vp_in_nI (by omega) (by omega)
      have v2 : vp_in (960 + nI o) 1635 := by rw [ix960]; exact vp_in_nI (by omega) (by omega)
      have v3 : vp_in (960 + nI q) 1635 := by rw [ix960]; exact vp_in_nI (by omega) (by omega)
      rw [w_X12_pulls_p2_s]
      unfold w_X12_pulls_p2_b
      rw [S.f, hn.c, i1, i2, i3, nI_1]
      unfold pullR at hp
      refine ⟨fun z => absurd z (nI_ge (by omega) (by omega)), fun _ => ⟨v1, fun z => ih (o + 1) (by omega) ?_, fun z => ⟨v2, fun z2 => ⟨v3, v2, v1, ?_⟩, fun z2 => ih (o + 1) (by omega) ?_⟩⟩⟩
      · rw [if_neg (fun e => z e.1)] at hp; exact hp
      · rw [if_pos ⟨z, z2⟩] at hp
        exact hp _ _ (FrM.u.tr FrM.u) ((S.u _ _).u _ _)
      · rw [if_neg (fun e => z2 e.2)] at hp; exact hp
  exact key cn.c 0 (by omega) h
theorem c_freeOne (S : StC b bk cn full but M N f fe lo) (hcb : CnB cn) (hBO : BO cn but f) (hq : q < cn.c) (hnb : ¬ but 1 q) (hc : c < 64) (h : ∀ M' N', Fr b M N M' N' → StC b bk cn full but M' N' (pullsF cn f q c) fe lo → post M' N') : w_X1_freeOneStuck b (nI c) (M (1, b, 15) q) M N post := by
  have h8 := hcb.2.1
  unfold w_X1_freeOneStuck
  refine ⟨9, ?_⟩
  have key : ∀ (j o : Nat), o + j = 8 → (∀ M' N', Fr b M N M' N' → StC b bk cn full but M' N' (pullR f q c (cn.c - o) o) fe lo → post M' N') → w_X1_freeOneStuck_p2 b post (j + 1) (nI c) (M (1, b, 15) q) (nI o) M N := by
    intro j
    induction j with
    | zero =>
      intro o ho hp
      have e0 : cn.c - o = 0 := by omega
      rw [e0] at hp
      rw [w_X1_freeOneStuck_p2_s]
      unfold w_X1_freeOneStuck_p2_b
      exact ⟨fun _ => hp _ _ Fr.rf S, fun z => absurd (nI_le (a := 8) (by omega) (by omega)) z⟩
    | succ j ih =>
      intro o ho hp
      have v1 : vp_in (nI o) 8 := vp_in_nI (by omega) (by omega)
      rw [w_X1_freeOneStuck_p2_s]
      unfold w_X1_freeOneStuck_p2_b
      rw [nI_clamp (show o < 2 ^ 31 by omega), nI_1]
      refine ⟨fun z => absurd z (nI_ge (b := 8) (by omega) (by omega)), fun _ => ⟨v1, ?_⟩⟩
      by_cases hoc : o < cn.c
      · have e1 : cn.c - o = (cn.c - (o + 1)) + 1 := by omega
        rw [e1] at hp
        unfold pullR at hp
        by_cases hb : but 1 o
        · rw [S.w.c.off o (by omega) (Or.inr hb)]
          rw [if_neg (fun e => by rw [hBO o hoc hb] at e; exact absurd e.1 (by decide))] at hp
          exact ⟨fun _ => ih (o + 1) (by omega) hp, fun z => absurd z (by decide)⟩
        · rw [(S.w.c.on o hoc hb).2.2.1, (S.w.c.on o hoc hb).1]
          refine ⟨fun z => ih (o + 1) (by omega) ?_, fun z => ⟨v1, fun z2 => ih (o + 1) (by omega) ?_, fun z2 => ⟨v1, v1, ?_⟩⟩⟩
          · rw [if_neg (fun e => z e.1)] at hp; exact hp
          · rw [if_neg (fun e => z2 e.2)] at hp; exact hp
          · rw [if_pos ⟨z, z2⟩] at hp
            rw [(S.w.c.on q hq hnb).1]
            have F : Fr b M N (am_u (am_u M (1, b, 15) o (f (960 + q))) (1, b, 17) o 0) N := (Fr.u (by decide) _).tr (Fr.u (by decide) _)
            exact hp _ _ F (S.nx F ((S.w.u15 hcb hoc _).u17 hcb hoc hb _))
      · rw [S.w.c.off o (by omega) (Or.inl (by omega))]
        refine ⟨fun _ => ih (o + 1) (by omega) ?_, fun z => absurd z (by decide)⟩
        have e0 : cn.c - o = 0 := by omega
        have e1 : cn.c - (o + 1) = 0 := by omega
        rw [e0] at hp
        rw [e1]
        exact hp
  exact key 8 0 (by omega) h
theorem pullsF_good (G : GoodF W cn f) (hBO : BO cn but f) (hq : q < cn.c) : GoodF W cn (pullsF cn f q c) ∧ BO cn but (pullsF cn f q c) ∧ (∀ i, ¬ (960 ≤ i ∧ i < 968) → ¬ (976 ≤ i ∧ i < 984) → pullsF cn f q c i = f i) ∧ (¬ f (976 + q) = 4 → pullsF cn f q c (976 + q) = f (976 + q) ∧ pullsF cn f q c (960 + q) = f (960 + q)) := by
  have h8 := G.b.2.1
  unfold pullsF
  rcases pullR_is (f := f) (q := q) (c := c) cn.c 0 with e | ⟨p, -, h2, h3, e⟩
  · rw [e]
    exact ⟨G, hBO, fun _ _ _ => rfl, fun _ => ⟨rfl, rfl⟩⟩
  · rw [e]
    have hp : p < cn.c := by omega
    refine ⟨G.putC (fun i hi => ?_) (G.c.one h8 hp (fun i a1 a2 a3 a4 a5 a6 => ?_) ?_ ?_ ?_ ?_), fun o ho hb => ?_, fun i h1 h2 => ?_, fun hn => ?_⟩
    · rw [pk_un (by omega), pk_un (by omega)]
    · rw [pk_un (by omega), pk_un (by omega)]
    · rw [pk_un (by omega), pk_us]; exact G.c.sp q hq
    · rw [pk_us]; decide
    · rw [pk_us]; exact fun z => absurd z (by decide)
    · intro _
      rw [pk_un (by omega), pk_un (by omega)]
      exact G.c.it0 p hp (by rw [h3]; decide)
    · by_cases e : o = p
      · subst e; rw [pk_us]
      · rw [pk_un (by omega), pk_un (by omega)]; exact hBO o ho hb
    · rw [pk_un (by omega), pk_un (by omega)]
    · have : q ≠ p := fun e => hn (by rw [e]; exact h3)
      rw [pk_un (by omega), pk_un (by omega), pk_un (by omega), pk_un (by omega)]
      exact ⟨rfl, rfl⟩
/-- hearing of a cell -/
theorem r_hear (S : StM bk cn but M N f fe lo) (hcb : CnB cn) (hn : GN cn f) (hc : c < 64) (h : ∀ M' N', FrM M N M' N' → StM bk cn but M' N' (heardF but f c cn.c) fe lo → post M' N') : ∃ n, w_X12_enters_p122 post n (nI c) 0 M N := by
  have h8 := hcb.2.1
  refine ⟨cn.c + 1, ?_⟩
  have key : ∀ (j o : Nat), o + j = cn.c → ∀ M1 N1, FrM M N M1 N1 → StM bk cn but M1 N1 (heardF but f c o) fe lo → w_X12_enters_p122 post (j + 1) (nI c) (nI o) M1 N1 := by
    intro j
    induction j with
    | zero =>
      intro o ho M1 N1 F1 S1
      have ho' : o = cn.c := by omega
      subst ho'
      rw [w_X12_enters_p122_s]
      unfold w_X12_enters_p122_b
      rw [S1.f, heardF_o hc _ h8 (by omega), hn.c]
      exact ⟨fun _ => h _ _ F1 S1, fun z => absurd (nI_le (Nat.le_refl _) (by omega)) z⟩
    | succ j ih =>
      intro o ho M1 N1 F1 S1
      have i2 : (960 + nI o).toNatClampNeg = 960 + o := by rw [ix960, nI_clamp (by omega)]
      have v2 : vp_in (960 + nI o) 1635 := by rw [ix960]; exact vp_in_nI (by omega) (by omega)
      have i3 : 992 + 64 * nI o + nI c = nI (992 + 64 * o + c) := by rw [xm64, ix992, nI_add]
      have v3 : vp_in (nI (992 + 64 * o + c)) 1635 := vp_in_nI (by omega) (by omega)
      rw [w_X12_enters_p122_s]
      unfold w_X12_enters_p122_b
      rw [S1.f, heardF_o hc o (by omega) (by omega), hn.c]
      refine ⟨fun z => absurd z (nI_ge (by omega) (by omega)), fun _ => eq_X12_isBut.mpr ?_⟩
      have hb := S1.but 1 o (by omega) (by omega)
      have hb' : (M1 (3, 0, 0) 30 = 1 ∧ M1 (3, 0, 0) 31 = nI o) ↔ but 1 o := hb
      rw [nI_1]
      by_cases e : but 1 o
      · rw [am_bt (hb'.mpr e)]
        have := ih (o + 1) (by omega) M1 N1 F1 (by rw [heardF_f (fun z => z.1 e)]; exact S1)
        exact ⟨fun _ => this, fun z => absurd z (by decide)⟩
      · rw [am_bf (fun z => e (hb'.mp z))]
        refine ⟨fun z => absurd rfl z, fun _ => ⟨v2, eq_X12_far.mpr ?_⟩⟩
        rw [i2, S1.f, heardF_o hc o (by omega) (by omega), heardF_o hc o (by omega) (by omega), i3, nI_clamp (by omega)]
        refine ⟨fun z => ih (o + 1) (by omega) M1 N1 F1 (by rw [heardF_f (fun y => y.2 z)]; exact S1), fun z => ⟨v3, ih (o + 1) (by omega) _ _ (F1.tr FrM.u) ?_⟩⟩
        rw [heardF_t ⟨e, z⟩]
        exact S1.u _ _
  exact key cn.c 0 (by omega) M N FrM.rf S
theorem c_hearOf (S : StC b bk cn full but M N f fe lo) (G : GoodF W cn f) (hc : c < 64) (h : ∀ M' N', Fr b M N M' N' → StC b bk cn full but M' N' (heardF but f c cn.c) fe lo → post M' N') : w_X1_hearOf b (nI c) (f 1629) M N post := by
  have h8 := G.b.2.1
  unfold w_X1_hearOf
  refine ⟨9, ?_⟩
  have key : ∀ (j o : Nat), o + j = 8 → ∀ N1, Fr b M N M N1 → StC b bk cn full but M N1 (heardF but f c (min o cn.c)) fe lo → w_X1_hearOf_p2 b post (j + 1) (nI c) (f 1629) (nI o) M N1 := by
    intro j
    induction j with
    | zero =>
      intro o ho N1 F1 S1
      rw [show min o cn.c = cn.c by omega] at S1
      rw [w_X1_hearOf_p2_s]
      unfold w_X1_hearOf_p2_b
      exact ⟨fun _ => h _ _ F1 S1, fun z => absurd (nI_le (a := 8) (by omega) (by omega)) z⟩
    | succ j ih =>
      intro o ho N1 F1 S1
      have v1 : vp_in (nI o) 8 := vp_in_nI (by omega) (by omega)
      rw [w_X1_hearOf_p2_s]
      unfold w_X1_hearOf_p2_b
      rw [nI_clamp (show o < 2 ^ 31 by omega), nI_1]
      refine ⟨fun z => absurd z (nI_ge (b := 8) (by omega) (by omega)), fun _ => ⟨v1, ?_⟩⟩
      by_cases hoc : o < cn.c
      · rw [show min o cn.c = o by omega] at S1
        have ih' := ih (o + 1) (by omega)
        rw [show min (o + 1) cn.c = o + 1 by omega] at ih'
        by_cases hb : but 1 o
        · rw [S.w.c.off o (by omega) (Or.inr hb)]
          have := ih' N1 F1 (by rw [heardF_f (fun z => z.1 hb)]; exact S1)
          exact ⟨fun _ => this, fun z => absurd rfl z⟩
        · rw [(S.w.c.on o hoc hb).2.2.1, (S.w.c.on o hoc hb).1]
          refine ⟨fun z => absurd z (G.c.ne6 o hoc), fun _ => ⟨v1, eq_X11_far.mpr ⟨fun z => ih' N1 F1 (by rw [heardF_f (fun y => y.2 z)]; exact S1), fun z => ⟨v1, eq_X11_bit.mpr ⟨v1, ?_⟩⟩⟩⟩⟩
          have F2 : Fr b M N1 M (am_ul N1 (1, b, 19) o (N1 (1, b, 19) o ||| am_bit (nI c))) := Fr.ul _
          refine ih' _ (F1.tr F2) ?_
          rw [heardF_t ⟨hb, z⟩]
          exact S1.nx F2 (S1.w.u19 G.b hoc hc)
      · rw [S.w.c.off o (by omega) (Or.inl (by omega))]
        have := ih (o + 1) (by omega) N1 F1 (by rw [show min (o + 1) cn.c = min o cn.c by omega]; exact S1)
        exact ⟨fun _ => this, fun z => absurd rfl z⟩
  exact key 8 0 (by omega) N Fr.rf (by rw [show min 0 cn.c = 0 by omega]; exact S)
theorem heardF_good (G : GoodF W cn f) (hc : c < 64) : GoodF W cn (heardF but f c cn.c) := by
  have h8 := G.b.2.1
  refine G.putC (fun i hi => heardF_o hc _ h8 (by omega)) ⟨fun q hq => ?_, fun q hq => ?_, fun q hq => ?_, fun q hq => ?_, fun q hq j hj => heardF_01 (G.c.mp q hq j hj) _, fun q hq hn => ?_⟩
  · rw [heardF_o hc _ h8 (by omega)]; exact G.c.sp q hq
  · rw [heardF_o hc _ h8 (by omega)]; exact G.c.ne6 q hq
  · rw [heardF_o hc _ h8 (by omega), heardF_o hc _ h8 (by omega)]; exact G.c.it1 q hq
  · rw [heardF_o hc _ h8 (by omega), heardF_o hc _ h8 (by omega)]; exact G.c.it0 q hq
  · rw [heardF_o hc _ h8 (by omega)]
    exact ⟨(G.c.new q hq hn).1, fun j hj => by rw [heardF_o hc _ h8 (Or.inr (Or.inr (fun o ho => by omega)))]; exact (G.c.new q hq hn).2 j hj⟩
/-- doing a work -/
theorem workE_good (G : GoodF W cn f) (hB : BkGood bk cn) (hBO : BO cn but f) (hq : q < cn.c) (hw : w < cn.w) (h1 : f (976 + q) = 1) : GoodF W cn (workE bk cn f q w) ∧ BO cn but (workE bk cn f q w) ∧ workE bk cn f q w (976 + q) = 1 ∧ workE bk cn f q w (960 + q) = f (960 + q) := by
  have h8 := G.b.2.1
  have hc := (hB.w w hw).2.1
  unfold workE
  by_cases e0 : bk.wK w = 0
  · rw [if_pos e0]
    refine ⟨seenF_good G hc, fun o ho hb => ?_, ?_, ?_⟩
    · rw [seenF_o (by omega) (by omega)]; exact hBO o ho hb
    · rw [seenF_o (by omega) (by omega)]; exact h1
    · rw [seenF_o (by omega) (by omega)]
  · rw [if_neg e0]
    by_cases e1 : bk.wK w = 1
    · rw [if_pos e1]
      have ho : ∀ i, 960 ≤ i → dieI f (bk.wC w) 2 i = f i := fun i hi => by
        unfold dieI dieF
        by_cases e : f (192 + bk.wC w) = 1
        · rw [if_pos e, pk_un (by omega), pk_un (by omega)]
        · rw [if_neg e]
      exact ⟨dieI_good G hc, fun o h2 hb => by rw [ho _ (by omega)]; exact hBO o h2 hb, by rw [ho _ (by omega)]; exact h1, ho _ (by omega)⟩
    · rw [if_neg e1]
      by_cases e2 : bk.wK w = 2
      · rw [if_pos e2]
        exact ⟨gotF_good G hc, fun o ho hb => by rw [gotF_o (by omega)]; exact hBO o ho hb, by rw [gotF_o (by omega)]; exact h1, gotF_o (by omega)⟩
      · rw [if_neg e2]
        obtain ⟨g1, g2, -, g4⟩ := pullsF_good (c := bk.wC w) G hBO hq
        have g5 := g4 (by rw [h1]; decide)
        exact ⟨g1, g2, g5.1.trans h1, g5.2⟩
theorem worksF_good (G : GoodF W cn f) (hB : BkGood bk cn) (hBO : BO cn but f) (hq : q < cn.c) (hw : w < cn.w) (h1 : f (976 + q) = 1) : GoodF W cn (worksF bk cn f q w) ∧ BO cn but (worksF bk cn f q w) := by
  have h8 := G.b.2.1
  have h60 := G.b.2.2.1
  obtain ⟨G1, B1, -, -⟩ := workE_good G hB hBO hq hw h1
  unfold worksF
  have G2 : GoodF W cn (upd (workE bk cn f q w) (1504 + w) 2) := G1.putK (fun i hi => pk_un (by omega))
  refine ⟨G2.putC (fun i hi => ?_) (G2.c.one h8 hq (fun i a1 a2 a3 a4 a5 a6 => ?_) ?_ ?_ ?_ ?_), fun o ho hb => ?_⟩
  · rw [pk_un (by omega), pk_un (by omega)]
  · rw [pk_un (by omega), pk_un (by omega)]
  · rw [pk_un (by omega), pk_un (by omega)]; exact G2.c.sp q hq
  · rw [pk_us]; decide
  · rw [pk_us]; exact fun z => absurd z (by decide)
  · intro _; rw [pk_un (by omega), pk_us]
  · by_cases e : o = q
    · subst e; rw [pk_us]
    · rw [pk_un (by omega), pk_un (by omega), pk_un (by omega)]; exact B1 o ho hb
theorem r_works (S : StM bk cn but M N f fe lo) (G : GoodF W cn f) (hB : BkGood bk cn) (hq : q < cn.c) (hw : w < cn.w) (hi : f (984 + q) = nI w) (h : ∀ M' N', FrM M N M' N' → StM bk cn but M' N' (worksF bk cn f q w) fe lo → post M' N') : w_X12_works (nI q) M N post := by
  have h8 := G.b.2.1
  have h60 := G.b.2.2.1
  obtain ⟨hk, hc, -⟩ := hB.w w hw
  have i1 : (984 + nI q).toNatClampNeg = 984 + q := by rw [ix984, nI_clamp (by omega)]
  have v1 : vp_in (984 + nI q) 1635 := by rw [ix984]; exact vp_in_nI (by omega) (by omega)
  have vw : vp_in (nI w) 60 := vp_in_nI (by omega) (by omega)
  have i2 : (1504 + nI w).toNatClampNeg = 1504 + w := by rw [ix1504, nI_clamp (by omega)]
  have v2 : vp_in (1504 + nI w) 1635 := by rw [ix1504]; exact vp_in_nI (by omega) (by omega)
  have i3 : (976 + nI q).toNatClampNeg = 976 + q := by rw [ix976, nI_clamp (by omega)]
  have v3 : vp_in (976 + nI q) 1635 := by rw [ix976]; exact vp_in_nI (by omega) (by omega)
  have fin : ∀ M1 N1, FrM M N M1 N1 → StM bk cn but M1 N1 (workE bk cn f q w) fe lo → w_X12_works_p139 post (nI q) (nI w) M1 N1 := by
    intro M1 N1 F1 S1
    unfold w_X12_works_p139
    rw [i1, i2, i3]
    exact ⟨v2, v1, v3, h _ _ (F1.tr (FrM.u.tr (FrM.u.tr FrM.u))) (((S1.u _ _).u _ _).u _ _)⟩
  unfold w_X12_works
  rw [i1, S.f, hi]
  refine ⟨v1, fun v ev => ?_⟩
  subst ev
  rw [nI_clamp (show w < 2 ^ 31 by omega), (S.k.w w hw).1, (S.k.w w hw).2.1, (S.k.w w hw).2.2]
  refine ⟨vw, fun v2 ev2 => ?_⟩
  subst ev2
  have j1 : (512 + nI (bk.wC w)).toNatClampNeg = 512 + bk.wC w := by rw [ix512, nI_clamp (by omega)]
  have j2 : (192 + nI (bk.wC w)).toNatClampNeg = 192 + bk.wC w := by rw [ix192, nI_clamp (by omega)]
  have j3 : (448 + nI (bk.wC w)).toNatClampNeg = 448 + bk.wC w := by rw [ix448, nI_clamp (by omega)]
  have u1 : vp_in (512 + nI (bk.wC w)) 1635 := by rw [ix512]; exact vp_in_nI (by omega) (by omega)
  have u2 : vp_in (192 + nI (bk.wC w)) 1635 := by rw [ix192]; exact vp_in_nI (by omega) (by omega)
  have u3 : vp_in (448 + nI (bk.wC w)) 1635 := by rw [ix448]; exact vp_in_nI (by omega) (by omega)
  rw [j1, j2, j3]
  have k0 : nI (bk.wK w) = 0 ↔ bk.wK w = 0 := nI_eq (b := 0) (by omega) (by omega)
  have k1 : nI (bk.wK w) = 1 ↔ bk.wK w = 1 := nI_eq (b := 1) (by omega) (by omega)
  have k2 : nI (bk.wK w) = 2 ↔ bk.wK w = 2 := nI_eq (b := 2) (by omega) (by omega)
  rw [k0, k1, k2]
  unfold workE at fin
  refine ⟨vw, fun z => ⟨u1, ?_⟩, fun z => ⟨u2, fun z2 => ?_, fun z2 => ?_⟩, fun z => ⟨u3, u2, fun z2 => ⟨u3, ?_⟩, fun z2 => ⟨vw, u3, ?_⟩⟩, fun z0 z1 z2 => ?_⟩
  · rw [if_pos z] at fin
    exact r_seen S G hc (fun M1 N1 F1 S1 => fin M1 N1 F1 S1)
  · rw [if_neg (by omega), if_pos z] at fin
    unfold dieI at fin
    rw [if_neg z2] at fin
    exact fin _ _ FrM.rf S
  · rw [if_neg (by omega), if_pos z] at fin
    unfold dieI at fin
    rw [if_pos z2] at fin
    exact r_dies S hc (fun M1 N1 F1 S1 => fin M1 N1 F1 S1)
  · rw [if_neg (by omega), if_neg (by omega), if_pos z] at fin
    unfold gotF at fin
    rw [if_neg z2] at fin
    have S1 := S.u (448 + bk.wC w) (f (448 + bk.wC w) + 0)
    rw [upd_id (Int32.add_zero _).symm] at S1
    exact fin _ _ FrM.u S1
  · rw [if_neg (by omega), if_neg (by omega), if_pos z] at fin
    unfold gotF at fin
    rw [if_pos z2] at fin
    exact fin _ _ FrM.u (S.u _ _)
  · rw [if_neg z0, if_neg z1, if_neg z2] at fin
    exact r_pulls S G.b G.n hq hc (fun M1 N1 F1 S1 => fin M1 N1 F1 S1)
theorem c_doWork (S : StC b bk cn full but M N f fe lo) (G : GoodF W cn f) (hB : BkGood bk cn) (hBO : BO cn but f) (hq : q < cn.c) (hnb : ¬ but 1 q) (hw : w < cn.w) (h : ∀ M' N', Fr b M N M' N' → StC b bk cn full but M' N' (worksF bk cn f q w) fe lo → post M' N') : w_X10_doWork b (nI q) (nI w) M N post := by
  have h8 := G.b.2.1
  have h60 := G.b.2.2.1
  have hle := S.k.le.2.2.1
  obtain ⟨hk, hc, -⟩ := hB.w w hw
  have v0 : vp_in (nI q) 8 := vp_in_nI (by omega) (by omega)
  have vw : vp_in (nI w) 60 := vp_in_nI (by omega) (by omega)
  have fin : ∀ M1 N1, Fr b M N M1 N1 → StC b bk cn full but M1 N1 (workE bk cn f q w) fe lo → w_X10_doWork_p123 b post (nI q) (nI w) M1 N1 := by
    intro M1 N1 F1 S1
    unfold w_X10_doWork_p123 w_X10_doWork_p140
    refine eq_X11_within.mpr ?_
    rw [am_bt ⟨nI_pos' (by omega), nI_le (b := 59) (by omega) (by omega)⟩, nI_clamp (show w < 2 ^ 31 by omega), nI_clamp (show q < 2 ^ 31 by omega)]
    refine ⟨fun z => absurd z (by decide), fun _ => ⟨vw, v0, v0, ?_⟩⟩
    have F2 : Fr b M1 N1 (am_u (am_u (am_u M1 (1, b, 20) w 2) (1, b, 18) q (-1)) (1, b, 17) q 0) N1 := (Fr.u (by decide) _).tr ((Fr.u (by decide) _).tr (Fr.u (by decide) _))
    exact h _ _ (F1.tr F2) (S1.nx F2 (((S1.w.u20 G.b hw _).u18 G.b hq _).u17 G.b hq hnb _))
  unfold w_X10_doWork
  refine sp_at (w := 3) (c := 1) S.k.t3 (by omega) (by omega) ?_
  refine sp_at (w := 3) (c := 0) S.k.t3 (by omega) (by omega) ?_
  rw [(S.k.w w hw).1, (S.k.w w hw).2.1]
  have k0 : nI (bk.wK w) = 0 ↔ bk.wK w = 0 := nI_eq (b := 0) (by omega) (by omega)
  have k1 : nI (bk.wK w) = 1 ↔ bk.wK w = 1 := nI_eq (b := 1) (by omega) (by omega)
  have k2 : nI (bk.wK w) = 2 ↔ bk.wK w = 2 := nI_eq (b := 2) (by omega) (by omega)
  rw [k0, k1, k2]
  unfold workE at fin
  refine ⟨fun z => c_marksOn S hc ?_, fun z => ?_, fun z => sp_at (w := 3) (c := 2) S.k.t3 (by omega) (by omega) ?_, fun z0 z1 z2 => ⟨v0, ?_⟩⟩
  · rw [if_pos z] at fin
    exact c_see S G hc (fun M1 N1 F1 _ S1 => fin M1 N1 F1 S1)
  · rw [if_neg (by omega), if_pos z] at fin
    exact c_remove S G.b hc (fun M1 N1 F1 _ S1 => fin M1 N1 F1 S1)
  · rw [if_neg (by omega), if_neg (by omega), if_pos z] at fin
    rw [(S.k.w w hw).2.2]
    exact c_nourish S G.b hc (fun M1 N1 F1 _ S1 => fin M1 N1 F1 S1)
  · rw [if_neg z0, if_neg z1, if_neg z2] at fin
    rw [nI_clamp (show q < 2 ^ 31 by omega)]
    exact c_freeOne S G.b hBO hq hnb hc (fun M1 N1 F1 S1 => fin M1 N1 F1 S1)
end WO
