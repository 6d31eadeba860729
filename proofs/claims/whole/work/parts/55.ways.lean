/-! ===== ways over the reference's field, for both sides ===== -/
def hvF (bk : Bk) (f : Nat → Int32) (q c : Nat) : Int32 := nI (bk.cW q) * (1 + f (64 + c) / 100)
def okF (bk : Bk) (f : Nat → Int32) (q c : Nat) : Prop := c < 64 ∧ f (992 + 64 * q + c) = 0 ∧ ¬ f 1626 < f (128 + c) + hvF bk f q c
def hnF (bk : Bk) (f : Nat → Int32) (q c : Nat) : Nat := (hvF bk f q c).toNatClampNeg
def spN (f : Nat → Int32) (q : Nat) : Nat := (f (960 + q)).toNatClampNeg
noncomputable def wayG (bk : Bk) (f : Nat → Int32) (q goal : Nat) (bes : Int32) : Option (Nat × Nat × Nat) := wayF nbr (okF bk f q) (hnF bk f q) (GoalN goal bes) (spN f q)
theorem wk_h {nb : Nat → Nat → Prop} {ok : Nat → Prop} {h h' : Nat → Nat} (e : ∀ c, ok c → h c = h' c) : ∀ k a g C, wk nb ok h k a g C ↔ wk nb ok h' k a g C
  | 0, _, _, _ => Iff.rfl
  | k + 1, a, g, C => by
    have ih := wk_h (nb := nb) e k
    constructor
    · rintro ⟨c, D, h1, h2, h3, h4⟩
      exact ⟨c, D, h1, h2, (ih c g D).mp h3, by rw [h4, e c h2]⟩
    · rintro ⟨c, D, h1, h2, h3, h4⟩
      exact ⟨c, D, h1, h2, (ih c g D).mpr h3, by rw [h4, e c h2]⟩
theorem wayIs_h1 {nb : Nat → Nat → Prop} {ok : Nat → Prop} {h h' : Nat → Nat} {G : Nat → Prop} {s : Nat} (e : ∀ c, ok c → h c = h' c) : ∀ r, wayIs nb ok h G s r → wayIs nb ok h' G s r
  | none, z => fun k g C hg hw => z k g C hg ((wk_h e _ _ _ _).mpr hw)
  | some (C, k, x), z => by
    obtain ⟨⟨g, a1, a2⟩, a3, a4, a5, a6, a7⟩ := z
    refine ⟨⟨g, a1, (wk_h e _ _ _ _).mp a2⟩, a3, a4, fun k' g' C' z1 z2 z3 => a5 k' g' C' z1 z2 ((wk_h e _ _ _ _).mpr z3), a6, fun hs => isLeast_congr (fun y => ?_) (a7 hs)⟩
    constructor
    · rintro ⟨g, k', C', h1, h2, h3, h4, h5, h6⟩
      exact ⟨g, k', C', h1, h2, h3, (wk_h e _ _ _ _).mp h4, by rw [← h5, e y h3], h6⟩
    · rintro ⟨g, k', C', h1, h2, h3, h4, h5, h6⟩
      exact ⟨g, k', C', h1, h2, h3, (wk_h e _ _ _ _).mpr h4, by rw [← h5, e y h3], h6⟩
theorem wayF_h {nb : Nat → Nat → Prop} {ok : Nat → Prop} {h h' : Nat → Nat} {G : Nat → Prop} {s : Nat} (e : ∀ c, ok c → h c = h' c) : wayF nb ok h G s = wayF nb ok h' G s := by
  have e8 : wayIs nb ok h G s = wayIs nb ok h' G s := funext fun r => propext ⟨wayIs_h1 e r, wayIs_h1 (fun c hc => (e c hc).symm) r⟩
  unfold wayF
  rw [e8]
theorem djkEnd_h {nb : Nat → Nat → Prop} {ok : Nat → Prop} {h h' : Nat → Nat} {s nd : Nat} {R : Nat → Prop} {key fi : Nat → Nat} (e : ∀ c, ok c → h c = h' c) (D : djkEnd nb ok h s nd R key fi) : djkEnd nb ok h' s nd R key fi := by
  obtain ⟨d1, d4, d5, d6, d7, d8⟩ := D
  refine ⟨d1, d4, fun c hc => ?_, fun p c hp => ?_, d7, fun c hc hs => isLeast_congr (fun x => ?_) (d8 c hc hs)⟩
  · obtain ⟨k, C, q1, q2, q3, q4⟩ := d5 c hc
    exact ⟨k, C, (wk_h e _ _ _ _).mp q1, q2, q3, q4⟩
  · obtain ⟨q1, q2, q3, q4, q5⟩ := d6 p c hp
    exact ⟨q1, q2, q3, q4, by rw [← e c q3]; exact q5⟩
  · constructor
    · rintro ⟨p, q1, q2, q3⟩
      exact ⟨p, q1, by rw [← e c q1.2.2]; exact q2, q3⟩
    · rintro ⟨p, q1, q2, q3⟩
      exact ⟨p, q1, by rw [e c q1.2.2]; exact q2, q3⟩
section WG
variable {M : am_I} {N : am_N} {b : Nat} {bk : Bk} {cn full : Cn} {but : Nat → Nat → Prop} {f f' : Nat → Int32} {fe lo : Int64} {W q goal : Nat} {bes : Int32} {post : am_I → am_N → Prop}
theorem hvF_cg (e : ∀ c, c < 64 → f' (64 + c) = f (64 + c)) {c : Nat} (hc : c < 64) : hvF bk f' q c = hvF bk f q c := by
  unfold hvF; rw [e c hc]
theorem wayG_cg (hq : q < 8) (e1 : ∀ i, 64 ≤ i → i < 192 → f' i = f i) (e2 : f' 1626 = f 1626) (e3 : f' (960 + q) = f (960 + q)) (e4 : ∀ c, c < 64 → f' (992 + 64 * q + c) = f (992 + 64 * q + c)) : wayG bk f' q goal bes = wayG bk f q goal bes := by
  unfold wayG
  have eh : ∀ c, c < 64 → hvF bk f' q c = hvF bk f q c := fun c hc => hvF_cg (fun c hc => e1 _ (by omega) (by omega)) hc
  have e5 : spN f' q = spN f q := by unfold spN; rw [e3]
  have e6 : okF bk f' q = okF bk f q := by
    funext c
    unfold okF
    by_cases hc : c < 64
    · rw [e4 c hc, e2, e1 (128 + c) (by omega) (by omega), eh c hc]
    · exact propext ⟨fun z => absurd z.1 hc, fun z => absurd z.1 hc⟩
  rw [e5, e6]
  exact wayF_h (fun c hc => by unfold hnF; rw [eh c hc.1])
theorem GoodF.sp (G : GoodF W cn f) (hq : q < cn.c) : spN f q < 64 ∧ f (960 + q) = nI (spN f q) := by
  obtain ⟨s, h1, h2⟩ := G.c.sp q hq
  have : spN f q = s := by unfold spN; rw [h2, nI_clamp (by omega)]
  rw [this]
  exact ⟨h1, h2⟩
theorem GoodF.wt (G : GoodF W cn f) {c : Nat} (hc : c < 64) : ∃ t, t < 2 ^ 31 ∧ f (64 + c) = nI t := by
  obtain ⟨t, h1, h2⟩ := G.g.we
  exact ⟨t c, by have := sumN_ge t hc; have := G.W; omega, h1 c hc⟩
/-- the weight on a cell that may be entered -/
theorem hvF_N (G : GoodF W cn f) (hB : BkGood bk cn) (hq : q < cn.c) {c : Nat} (hc : c < 64) : hvF bk f q c = nI (hnF bk f q c) ∧ (okF bk f q c → ∃ p l, f (128 + c) = nI p ∧ f 1626 = nI l ∧ l ≤ 9999 ∧ p + hnF bk f q c ≤ l) := by
  obtain ⟨t, h1, h2⟩ := G.wt hc
  obtain ⟨p, h3, h4⟩ := G.g.pr c hc
  obtain ⟨l, h5, h6⟩ := G.g.li
  have hw := (hB.c q hq).2.2.1
  have e1 : hvF bk f q c = nI (bk.cW q * (1 + t / 100)) := by
    unfold hvF
    rw [h2]
    show nI _ * (nI 1 + nI t / nI 100) = _
    rw [pk_div h1 (by omega) (by omega), nI_add, pk_mul]
  have hm : bk.cW q * (1 + t / 100) ≤ 50 * (1 + t / 100) := Nat.mul_le_mul_right _ hw
  have e2 : hnF bk f q c = bk.cW q * (1 + t / 100) := by
    unfold hnF
    rw [e1, nI_clamp (by omega)]
  refine ⟨by rw [e2]; exact e1, fun ho => ⟨p, l, h4, h6, h5, ?_⟩⟩
  have := ho.2.2
  rw [h4, h6, e1, nI_add] at this
  rw [e2]
  exact Classical.byContradiction fun z => this (nI_lt (by omega) (by omega))
theorem r_okM (S : StM bk cn but M N f fe lo) (hq : q < cn.c) : okM M q = okF bk f q ∧ hN M q = hnF bk f q := by
  have e : hvI M q = hvF bk f q := by
    funext c
    unfold hvI hvF
    rw [S.f, (S.k.c q hq).2.1]
  refine ⟨?_, ?_⟩
  · funext c
    unfold okM okF
    rw [S.f, e]
  · funext c
    unfold hN hnF
    rw [e]
theorem r_wayB (S : StM bk cn but M N f fe lo) (G : GoodF W cn f) (hB : BkGood bk cn) (hq : q < cn.c) : wayB M q := by
  have := G.b.2.1
  refine ⟨by omega, ⟨bk.cW q, (hB.c q hq).2.2.1, (S.k.c q hq).2.1⟩, fun c hc => ?_, fun c hc => ?_, ?_⟩
  · rw [S.f]; exact G.wt hc
  · rw [S.f]; exact G.g.pr c hc
  · rw [S.f]; exact G.g.li
theorem r_ways (S : StM bk cn but M N f fe lo) (G : GoodF W cn f) (hB : BkGood bk cn) (hq : q < cn.c) (hg : goal < 64)
    (h0 : wayG bk f q goal bes = none → ∀ M' N', FrM M N M' N' → StM bk cn but M' N' f fe lo → N' (3, 0, 24) (spN f q) = lN FARN → (∀ K : Int32 → am_I → am_N → Prop, (∀ r, K r M' N') → w_X12_nextOf (nI q) (nI (spN f q)) M' N' K) → post M' N')
    (h1 : ∀ C k x, wayG bk f q goal bes = some (C, k, x) → C ≤ 639936 → k ≤ 64 → x < 64 → (¬ GoalN goal bes (spN f q) → okF bk f q x) → ∀ M' N', FrM M N M' N' → StM bk cn but M' N' f fe lo → N' (3, 0, 24) (spN f q) = lN (1000000 * C + k) → (∀ K : Int32 → am_I → am_N → Prop, K (nI x) M' N' → w_X12_nextOf (nI q) (nI (spN f q)) M' N' K) → post M' N') : w_X12_ways (nI q) (nI goal) bes M N post := by
  obtain ⟨s64, -⟩ := G.sp hq
  refine sp_X12_ways (r_wayB S G hB hq) hg (fun R aN aw dn hE => ?_)
  have F : FrM M N (am_s M (3, 0, 25) dn) (am_s N (3, 0, 24) aw) := FrM.tr (FrM.x (by omega) (by omega) _) (FrM.xl (by omega) (by omega) _)
  have S' : StM bk cn but (am_s M (3, 0, 25) dn) (am_s N (3, 0, 24) aw) f fe lo := (S.nx1 (by omega) (by omega) dn).nx2 (by omega) (by omega) aw
  obtain ⟨nd, e1, e2, e3, e4⟩ := hE
  obtain ⟨o1, o2⟩ := r_okM S hq
  obtain ⟨o3, o4⟩ := r_okM S' hq
  have hE' : wayEnd (am_s M (3, 0, 25) dn) q goal bes R aN ((am_s N (3, 0, 24) aw) (3, 0, 24)) := by
    refine ⟨nd, e1, ?_, e3, by rw [am_s_same]; exact e4⟩
    rw [o3, o4, ← o1, ← o2]
    exact e2
  rw [o1, o2] at e2
  by_cases hR : R (spN f q)
  · have hx : ∃ x, (GoalN goal bes (spN f q) → x = spN f q) ∧ (¬ GoalN goal bes (spN f q) → isLeast (fun x => nbr (spN f q) x ∧ okF bk f q x ∧ R x ∧ aN x + (1000000 * hnF bk f q x + 1) = aN (spN f q)) x) := by
      by_cases hG : GoalN goal bes (spN f q)
      · exact ⟨_, fun _ => rfl, fun z => absurd hG z⟩
      · obtain ⟨x, hx⟩ := nxt_some (M := M) (q := q) (by rw [o1, o2]; exact e2) hR hG
        obtain ⟨x, hx1, hx2⟩ := pk_least (nxt M q R aN (spN f q)) ⟨x, hx⟩
        have e : nxt M q R aN (spN f q) = (fun x => nbr (spN f q) x ∧ okF bk f q x ∧ R x ∧ aN x + (1000000 * hnF bk f q x + 1) = aN (spN f q)) := by
          funext y; unfold nxt; rw [o1, o2]
        rw [e] at hx1 hx2
        exact ⟨x, fun z => absurd z hG, fun _ => ⟨hx1, fun y hy => Nat.le_of_not_lt fun z => hx2 y z hy⟩⟩
    obtain ⟨x, hx1, hx2⟩ := hx
    obtain ⟨C, k, w1, w2, w3, w4⟩ := wayIs_M nbr_sym e2 e1 hR hx1 hx2
    have hx64 : x < 64 := by
      by_cases hG : GoalN goal bes (spN f q)
      · rw [hx1 hG]; exact s64
      · exact (hx2 hG).1.1.2.1
    refine h1 C k x (wayF_eq w4) (by omega) w2 hx64 (fun hG => (hx2 hG).1.2.1) _ _ F S' (by rw [am_s_same, (e4 _ s64).1 hR, w1]) (fun K hK => ?_)
    refine sp_X12_nextOf (r_wayB S' G hB hq) s64 hE' (fun r r1 r2 => ?_)
    by_cases hG : GoalN goal bes (spN f q)
    · rw [r1 hG, ← hx1 hG]; exact hK
    · obtain ⟨y, y1, y2⟩ := r2 hR hG
      have e : nxt (am_s M (3, 0, 25) dn) q R aN (spN f q) = (fun x => nbr (spN f q) x ∧ okF bk f q x ∧ R x ∧ aN x + (1000000 * hnF bk f q x + 1) = aN (spN f q)) := by
        funext y; unfold nxt; rw [o3, o4]
      rw [e] at y2
      rw [y1, isLeast_uniq y2 (hx2 hG)]
      exact hK
  · refine h0 (wayF_eq (wayIs_M0 nbr_sym e2 hR)) _ _ F S' (by rw [am_s_same, (e4 _ s64).2 hR]) (fun K hK => ?_)
    exact sp_X12_nextOf (r_wayB S' G hB hq) s64 hE' (fun r _ _ => hK r)
/-- what a search of the class found for cart q -/
def srQ (bk : Bk) (f : Nat → Int32) (q : Nat) (ky fy : Nat → Int32) : Prop := ∃ R key fi, srEnd (okF bk f q) (hnF bk f q) (spN f q) q R key fi ky fy
/-- what the class reads at the goal r -/
def wayAt (M : am_I) (q : Nat) (r : Int32) : Option (Nat × Nat × Nat) → Prop
  | none => r = -1 ∨ ∃ c, c < 64 ∧ r = nI c ∧ ∃ R key fi, srRow M q R key fi ∧ ¬ R c
  | some (C, k, x) => ∃ c, c < 64 ∧ r = nI c ∧ (∃ R key fi, srRow M q R key fi ∧ R c ∧ key c / 128 = C ∧ key c % 128 = k ∧ fi c = x) ∧ C ≤ 639936 ∧ k ≤ 64 ∧ x < 64
theorem c_okC (S : StC b bk cn full but M N f fe lo) (hq : q < cn.c) (hnb : ¬ but 1 q) (G : GoodF W cn f) : okC M N b q (nI (bk.cW q)) (M (1, b, 22) 0) = okF bk f q ∧ (∀ c, c < 64 → hvC M b (nI (bk.cW q)) c = hvF bk f q c) := by
  have e : ∀ c, c < 64 → hvC M b (nI (bk.cW q)) c = hvF bk f q c := fun c hc => by
    unfold hvC hvF
    rw [S.w.g.we c hc]
  refine ⟨?_, e⟩
  funext c
  unfold okC okF
  by_cases hc : c < 64
  · have hq8 : q < 8 := by have := G.b.2.1; omega
    rw [e c hc, S.w.g.pr c hc, S.w.s.set 0 (by omega), bit_and_0 hc]
    have hm := S.w.c.mp q hq hnb c hc
    have hz := G.c.mp q hq8 c hc
    have e1 : tb (N (1, b, 19) q) c = false ↔ f (992 + 64 * q + c) = 0 := by
      constructor
      · intro z
        cases hz with
        | inl z0 => exact z0
        | inr z1 => rw [hm.mpr z1] at z; cases z
      · intro z
        cases ht : tb (N (1, b, 19) q) c with
        | false => rfl
        | true => have := hm.mp ht; rw [z] at this; exact absurd this (by decide)
    rw [e1, i32_nlt]
  · exact propext ⟨fun z => absurd z.1 hc, fun z => absurd z.1 hc⟩
theorem c_search (S : StC b bk cn full but M N f fe lo) (G : GoodF W cn f) (hB : BkGood bk cn) (hq : q < cn.c) (hnb : ¬ but 1 q)
    (h : ∀ M' N', Fr b M N M' N' → StC b bk cn full but M' N' f fe lo → srQ bk f q (M' (0, 0, 3)) (M' (0, 0, 4)) → (∀ i, ¬ (64 * q ≤ i ∧ i < 64 * q + 64) → M' (0, 0, 3) i = M (0, 0, 3) i ∧ M' (0, 0, 4) i = M (0, 0, 4) i) → post M' N') : w_X5_search b (nI q) (M (1, b, 22) 0) M N post := by
  have hq8 : q < 8 := by have := G.b.2.1; omega
  obtain ⟨s64, es⟩ := G.sp hq
  obtain ⟨o1, o2⟩ := c_okC S hq hnb G
  have hle := S.k.le.2.1
  have hB' : srB M b (nI (bk.cW q)) (M (1, b, 22) 0) := by
    refine ⟨⟨_, (hB.c q hq).2.2.1, rfl⟩, fun c hc => ?_, fun c hc => ?_, ?_⟩
    · rw [S.w.g.we c hc]; exact G.wt hc
    · rw [S.w.g.pr c hc]; exact G.g.pr c hc
    · rw [S.w.s.set 0 (by omega)]; exact G.g.li
  refine sp_X5_search (w := nI (bk.cW q)) hB' hq8 (by rw [(S.w.c.on q hq hnb).1, es]) s64 (fun p hp => ?_) (fun R key fi ky fy eg po tl hE hO => ?_)
  · refine sp_at (w := 5) (c := 1) S.k.t2 (by omega) (by omega) ?_
    rw [(S.k.c q hq).2.1]
    exact hp
  · have F : Fr b M N (pS (am_s M (0, 0, 5) tl) ky fy eg po) N := by
      unfold pS
      exact (Fr.p (i := 5) (by omega) (by omega) _).tr ((Fr.p (i := 3) (by omega) (by omega) _).tr ((Fr.p (i := 4) (by omega) (by omega) _).tr ((Fr.p (i := 6) (by omega) (by omega) _).tr (Fr.p (i := 2) (by omega) (by omega) _))))
    have eM : ∀ i, pS (am_s M (0, 0, 5) tl) ky fy eg po (1, b, i) = M (1, b, i) := fun i => by
      unfold pS
      rw [am_s_other _ _ (by simp), am_s_other _ _ (by simp), am_s_other _ _ (by simp), am_s_other _ _ (by simp), am_s_other _ _ (by simp)]
    have e3 : pS (am_s M (0, 0, 5) tl) ky fy eg po (0, 0, 3) = ky := by
      unfold pS
      rw [am_s_other _ _ (by simp), am_s_other _ _ (by simp), am_s_other _ _ (by simp), am_s_same]
    have e4 : pS (am_s M (0, 0, 5) tl) ky fy eg po (0, 0, 4) = fy := by
      unfold pS
      rw [am_s_other _ _ (by simp), am_s_other _ _ (by simp), am_s_same]
    refine h _ _ F (S.nx F (S.w.mem (fun i _ _ _ => eM i) (fun _ _ => rfl))) ?_ (fun i hi => by rw [e3, e4]; exact hO i hi)
    rw [e3, e4]
    obtain ⟨⟨nd, d1, d2⟩, d3, d4⟩ := hE
    rw [o1] at d2
    refine ⟨R, key, fi, ⟨nd, d1, ?_⟩, d3, d4⟩
    have eh : ∀ c, c < 64 → hNC M b (nI (bk.cW q)) c = hnF bk f q c := fun c hc => by unfold hNC hnF; rw [o2 c hc]
    exact djkEnd_h (fun c hc => eh c hc.1) d2
end WG
