/-! ===== states of both sides; rain, flow, dry ===== -/
def StM (bk : Bk) (cn : Cn) (but : Nat → Nat → Prop) (M : am_I) (N : am_N) (f : Nat → Int32) (fe lo : Int64) : Prop := (BkM M bk cn) ∧ (M (3, 0, 1) = f) ∧ (N (3, 0, 0) 2 = fe) ∧ (N (3, 0, 0) 3 = lo) ∧ (∀ k i, k < 3 → i < 64 → ((M (3, 0, 0) 30 = nI k ∧ M (3, 0, 0) 31 = nI i) ↔ but k i))
theorem StM.k {bk : Bk} {cn : Cn} {but : Nat → Nat → Prop} {M : am_I} {N : am_N} {f : Nat → Int32} {fe lo : Int64} (h : StM bk cn but M N f fe lo) : BkM M bk cn := h.1
theorem StM.f {bk : Bk} {cn : Cn} {but : Nat → Nat → Prop} {M : am_I} {N : am_N} {f : Nat → Int32} {fe lo : Int64} (h : StM bk cn but M N f fe lo) : M (3, 0, 1) = f := h.2.1
theorem StM.fe {bk : Bk} {cn : Cn} {but : Nat → Nat → Prop} {M : am_I} {N : am_N} {f : Nat → Int32} {fe lo : Int64} (h : StM bk cn but M N f fe lo) : N (3, 0, 0) 2 = fe := h.2.2.1
theorem StM.lo {bk : Bk} {cn : Cn} {but : Nat → Nat → Prop} {M : am_I} {N : am_N} {f : Nat → Int32} {fe lo : Int64} (h : StM bk cn but M N f fe lo) : N (3, 0, 0) 3 = lo := h.2.2.2.1
theorem StM.but {bk : Bk} {cn : Cn} {but : Nat → Nat → Prop} {M : am_I} {N : am_N} {f : Nat → Int32} {fe lo : Int64} (h : StM bk cn but M N f fe lo) : ∀ k i, k < 3 → i < 64 → ((M (3, 0, 0) 30 = nI k ∧ M (3, 0, 0) 31 = nI i) ↔ but k i) := h.2.2.2.2
def StC (b : Nat) (bk : Bk) (cn full : Cn) (but : Nat → Nat → Prop) (M : am_I) (N : am_N) (f : Nat → Int32) (fe lo : Int64) : Prop := (BkC M bk cn full) ∧ (CnB full) ∧ (RelW b cn but M N f fe lo)
theorem StC.k {b : Nat} {bk : Bk} {cn full : Cn} {but : Nat → Nat → Prop} {M : am_I} {N : am_N} {f : Nat → Int32} {fe lo : Int64} (h : StC b bk cn full but M N f fe lo) : BkC M bk cn full := h.1
theorem StC.fb {b : Nat} {bk : Bk} {cn full : Cn} {but : Nat → Nat → Prop} {M : am_I} {N : am_N} {f : Nat → Int32} {fe lo : Int64} (h : StC b bk cn full but M N f fe lo) : CnB full := h.2.1
theorem StC.w {b : Nat} {bk : Bk} {cn full : Cn} {but : Nat → Nat → Prop} {M : am_I} {N : am_N} {f : Nat → Int32} {fe lo : Int64} (h : StC b bk cn full but M N f fe lo) : RelW b cn but M N f fe lo := h.2.2
/-- what a step of the reference leaves alone -/
def FrM (M : am_I) (N : am_N) (M' : am_I) (N' : am_N) : Prop := (∀ c : am_C, c ≠ (3, 0, 1) → ¬ (c.1 = 3 ∧ 23 ≤ c.2.2 ∧ c.2.2 ≤ 31) → M' c = M c ∧ (c ≠ (3, 0, 0) → N' c = N c)) ∧ ∀ k, k ≠ 2 → k ≠ 3 → N' (3, 0, 0) k = N (3, 0, 0) k
section FM
variable {M M' M'' : am_I} {N N' N'' : am_N} {b : Nat} {bk : Bk} {cn full : Cn} {but : Nat → Nat → Prop} {f f' : Nat → Int32} {fe lo fe' lo' : Int64} {W : Nat}
theorem FrM.rf : FrM M N M N := ⟨fun _ _ _ => ⟨rfl, fun _ => rfl⟩, fun _ _ _ => rfl⟩
theorem FrM.tr (h1 : FrM M N M' N') (h2 : FrM M' N' M'' N'') : FrM M N M'' N'' :=
  ⟨fun c a1 a2 => ⟨((h2.1 c a1 a2).1).trans (h1.1 c a1 a2).1, fun a3 => ((h2.1 c a1 a2).2 a3).trans ((h1.1 c a1 a2).2 a3)⟩, fun k a1 a2 => (h2.2 k a1 a2).trans (h1.2 k a1 a2)⟩
theorem FrM.s (g : Nat → Int32) : FrM M N (am_s M (3, 0, 1) g) N := ⟨fun c a1 _ => ⟨am_s_other M g a1, fun _ => rfl⟩, fun _ _ _ => rfl⟩
theorem FrM.x {i : Nat} (h1 : 23 ≤ i) (h2 : i ≤ 31) (g : Nat → Int32) : FrM M N (am_s M (3, 0, i) g) N := ⟨fun c _ a2 => ⟨am_s_other M g (fun e => a2 (by subst e; exact ⟨rfl, h1, h2⟩)), fun _ => rfl⟩, fun _ _ _ => rfl⟩
theorem FrM.xl {i : Nat} (h1 : 23 ≤ i) (h2 : i ≤ 31) (g : Nat → Int64) : FrM M N M (am_s N (3, 0, i) g) :=
  ⟨fun c _ a2 => ⟨rfl, fun _ => am_s_other N g (fun e => a2 (by subst e; exact ⟨rfl, h1, h2⟩))⟩, fun k _ _ => by
    rw [am_s_other N g]
    intro e
    simp only [Prod.mk.injEq] at e
    omega⟩
theorem FrM.n {k : Nat} (h : k = 2 ∨ k = 3) (x : Int64) : FrM M N M (am_ul N (3, 0, 0) k x) :=
  ⟨fun c _ _ => ⟨rfl, fun a3 => am_ul_o N k x a3⟩, fun j h2 h3 => by rw [am_ul_c, pk_uLn (by omega)]⟩
theorem FrM.row (h : FrM M N M' N') {i : Nat} (h1 : i ≠ 1) (h2 : i < 23 ∨ 31 < i) : M' (3, 0, i) = M (3, 0, i) :=
  (h.1 (3, 0, i) (fun e => by simp only [Prod.mk.injEq] at e; omega) (fun z => by have := z.2; simp only at this; omega)).1
theorem BkM.cg (h : BkM M bk cn) (F : FrM M N M' N') : BkM M' bk cn := by
  refine ⟨?_, ?_, ?_, ?_, ?_⟩
  · exact fun r hr => by rw [F.row (by decide) (by omega), F.row (by decide) (by omega), F.row (by decide) (by omega)]; exact h.r r hr
  · exact fun r hr => by rw [F.row (by decide) (by omega), F.row (by decide) (by omega), F.row (by decide) (by omega), F.row (by decide) (by omega), F.row (by decide) (by omega)]; exact h.c r hr
  · exact fun r hr => by rw [F.row (by decide) (by omega), F.row (by decide) (by omega), F.row (by decide) (by omega)]; exact h.w r hr
  · exact fun r hr => by rw [F.row (by decide) (by omega)]; exact h.l r hr
  · exact fun r hr => by rw [F.row (by decide) (by omega), F.row (by decide) (by omega)]; exact h.k r hr
theorem StM.nx (S : StM bk cn but M N f fe lo) (F : FrM M N M' N') (e1 : M' (3, 0, 1) = f') (e2 : N' (3, 0, 0) 2 = fe') (e3 : N' (3, 0, 0) 3 = lo') : StM bk cn but M' N' f' fe' lo' := by
  refine ⟨?_, ?_, ?_, ?_, ?_⟩
  · exact S.k.cg F
  · exact e1
  · exact e2
  · exact e3
  · exact fun k i hk hi => by rw [F.row (by decide) (by omega)]; exact S.but k i hk hi
theorem StM.nf (S : StM bk cn but M N f fe lo) (g : Nat → Int32) : StM bk cn but (am_s M (3, 0, 1) g) N g fe lo := S.nx (FrM.s g) (am_s_same M _ g) S.fe S.lo
theorem StM.nx1 (S : StM bk cn but M N f fe lo) {i : Nat} (h1 : 23 ≤ i) (h2 : i ≤ 31) (g : Nat → Int32) : StM bk cn but (am_s M (3, 0, i) g) N f fe lo :=
  S.nx (FrM.x h1 h2 g) (by rw [am_s_other M g (fun e => by simp only [Prod.mk.injEq] at e; omega)]; exact S.f) S.fe S.lo
theorem StM.nx2 (S : StM bk cn but M N f fe lo) {i : Nat} (h1 : 23 ≤ i) (h2 : i ≤ 31) (g : Nat → Int64) : StM bk cn but M (am_s N (3, 0, i) g) f fe lo :=
  S.nx (FrM.xl h1 h2 g) S.f (by rw [am_s_other N g (fun e => by simp only [Prod.mk.injEq] at e; omega)]; exact S.fe) (by rw [am_s_other N g (fun e => by simp only [Prod.mk.injEq] at e; omega)]; exact S.lo)
theorem StM.nfe (S : StM bk cn but M N f fe lo) (x : Int64) : StM bk cn but M (am_ul N (3, 0, 0) 2 x) f x lo :=
  S.nx (FrM.n (Or.inl rfl) x) S.f (am_ul_at N _ 2 x) (by rw [am_ul_c, pk_uLn (by decide)]; exact S.lo)
theorem StM.nlo (S : StM bk cn but M N f fe lo) (x : Int64) : StM bk cn but M (am_ul N (3, 0, 0) 3 x) f fe x :=
  S.nx (FrM.n (Or.inr rfl) x) S.f (by rw [am_ul_c, pk_uLn (by decide)]; exact S.fe) (am_ul_at N _ 3 x)
/-- frames of the class -/
theorem Fr.s {i : Nat} (hi : i ≠ 0) (g : Nat → Int32) : Fr b M N (am_s M (1, b, i) g) N := by
  have h0 : ((1 : Nat), b, (0 : Nat)) ≠ (1, b, i) := fun e => by simp only [Prod.mk.injEq] at e; omega
  refine ⟨⟨fun c a1 _ => ⟨am_s_other M g (fun e => a1 (by subst e; exact ⟨rfl, rfl⟩)), rfl⟩, ?_, ?_⟩, ?_⟩ <;> rw [am_s_other M g h0]
theorem Fr.l {i : Nat} (g : Nat → Int64) : Fr b M N M (am_s N (1, b, i) g) :=
  ⟨⟨fun c a1 _ => ⟨rfl, am_s_other N g (fun e => a1 (by subst e; exact ⟨rfl, rfl⟩))⟩, rfl, rfl⟩, rfl⟩
theorem Fr.ul {i k : Nat} (x : Int64) : Fr b M N M (am_ul N (1, b, i) k x) := Fr.l _
theorem Fr.u {i k : Nat} (hi : i ≠ 0) (x : Int32) : Fr b M N (am_u M (1, b, i) k x) N := Fr.s hi _
theorem Fr.w {k : Nat} (h1 : k ≠ 9) (h2 : k ≠ 12) (h3 : k ≠ 13) (x : Int32) : Fr b M N (am_u M (1, b, 0) k x) N := by
  refine ⟨⟨fun c a1 _ => ⟨am_u_o M k x (fun e => a1 (by subst e; exact ⟨rfl, rfl⟩)), rfl⟩, ?_, ?_⟩, ?_⟩ <;> rw [am_u_c, pk_un (by omega)]
theorem Fr.p {i : Nat} (h1 : 2 ≤ i) (h2 : i ≤ 6) (g : Nat → Int32) : Fr b M N (am_s M (0, 0, i) g) N := by
  have h0 : ((1 : Nat), b, (0 : Nat)) ≠ (0, 0, i) := fun e => by simp only [Prod.mk.injEq] at e; omega
  refine ⟨⟨fun c _ a2 => ⟨am_s_other M g (fun e => a2 (by subst e; exact ⟨rfl, h1, h2⟩)), rfl⟩, ?_, ?_⟩, ?_⟩ <;> rw [am_s_other M g h0]
/-- the relation looks at some cells alone -/
theorem RelW.mem (R : RelW b cn but M N f fe lo) (hM : ∀ i, i ≠ 5 → i ≠ 13 → i ≠ 19 → M' (1, b, i) = M (1, b, i)) (hN : ∀ i, i = 1 ∨ i = 6 ∨ i = 19 → N' (1, b, i) = N (1, b, i)) : RelW b cn but M' N' f fe lo := by
  refine ⟨?_, ?_, ?_, ?_, ?_, ?_, ?_⟩
  · exact by rw [hM 2 (by decide) (by decide) (by decide), hM 3 (by decide) (by decide) (by decide), hM 4 (by decide) (by decide) (by decide)]; exact R.g
  · exact by
      rw [hM 6 (by decide) (by decide) (by decide), hM 7 (by decide) (by decide) (by decide), hM 8 (by decide) (by decide) (by decide), hM 9 (by decide) (by decide) (by decide), hM 10 (by decide) (by decide) (by decide), hM 11 (by decide) (by decide) (by decide), hM 12 (by decide) (by decide) (by decide), hN 6 (by decide)]
      exact R.p
  · exact by
      rw [hM 15 (by decide) (by decide) (by decide), hM 16 (by decide) (by decide) (by decide), hM 17 (by decide) (by decide) (by decide), hM 18 (by decide) (by decide) (by decide), hN 19 (by decide)]
      exact R.c
  · exact by rw [hM 20 (by decide) (by decide) (by decide), hM 21 (by decide) (by decide) (by decide)]; exact R.k
  · exact by rw [hM 22 (by decide) (by decide) (by decide), hM 0 (by decide) (by decide) (by decide)]; exact R.s
  · exact by rw [hN 1 (by decide)]; exact R.fe
  · exact by rw [hN 1 (by decide)]; exact R.lo
theorem StC.nx (S : StC b bk cn full but M N f fe lo) (F : Fr b M N M' N') (R : RelW b cn but M' N' f' fe' lo') : StC b bk cn full but M' N' f' fe' lo' := by
  refine ⟨?_, ?_, ?_⟩
  · exact S.k.cg (fun t i => F.1.tab t i)
  · exact S.fb
  · exact R
theorem RelW.wet (hcb : CnB cn) (R : RelW b cn but M N f fe lo) {w w' : Nat → Int32} (hw : ∀ c, c < 64 → w' c = w c) : RelW b cn but (am_s M (1, b, 3) w') N (setW f w) fe lo := by
  refine ⟨?_, ?_, ?_, ?_, ?_, ?_, ?_⟩
  · exact by
      refine ⟨fun c hc => ?_, fun c hc => ?_, fun c hc => ?_⟩
      · rw [am_s_other M w' (by simp), setW_o (by omega)]; exact R.g.hg c hc
      · rw [am_s_same, setW_at hc]; exact hw c hc
      · rw [am_s_other M w' (by simp), setW_o (by omega)]; exact R.g.pr c hc
  · exact by
      rw [am_s_other M w' (by simp), am_s_other M w' (by simp), am_s_other M w' (by simp), am_s_other M w' (by simp), am_s_other M w' (by simp), am_s_other M w' (by simp), am_s_other M w' (by simp)]
      exact R.p.cg (fun i h1 h2 => setW_o (by omega)) (setW_o (by omega))
  · exact by
      rw [am_s_other M w' (by simp), am_s_other M w' (by simp), am_s_other M w' (by simp), am_s_other M w' (by simp)]
      exact R.c.cg hcb.2.1 (fun i h1 h2 => setW_o (by omega))
  · exact by
      rw [am_s_other M w' (by simp), am_s_other M w' (by simp)]
      exact R.k.cg hcb.2.2.1 (fun i h1 h2 => setW_o (by omega))
  · exact by
      rw [am_s_other M w' (by simp), am_s_other M w' (by simp)]
      exact R.s.cg (fun i h1 h2 _ => setW_o (by omega))
  · exact R.fe
  · exact R.lo
theorem RelW.fel (R : RelW b cn but M N f fe lo) (x : Int64) : RelW b cn but M (am_ul N (1, b, 1) 4 x) f x lo := by
  refine ⟨?_, ?_, ?_, ?_, ?_, ?_, ?_⟩
  · exact R.g
  · exact by rw [am_ul_o N 4 x (by simp)]; exact R.p
  · exact by rw [am_ul_o N 4 x (by simp)]; exact R.c
  · exact R.k
  · exact R.s
  · exact am_ul_at N _ 4 x
  · exact by rw [am_ul_c, pk_uLn (by decide)]; exact R.lo
theorem RelW.los (R : RelW b cn but M N f fe lo) (x : Int64) : RelW b cn but M (am_ul N (1, b, 1) 5 x) f fe x := by
  refine ⟨?_, ?_, ?_, ?_, ?_, ?_, ?_⟩
  · exact R.g
  · exact by rw [am_ul_o N 5 x (by simp)]; exact R.p
  · exact by rw [am_ul_o N 5 x (by simp)]; exact R.c
  · exact R.k
  · exact R.s
  · exact by rw [am_ul_c, pk_uLn (by decide)]; exact R.fe
  · exact am_ul_at N _ 5 x
theorem GoodF.wet {W' : Nat} (G : GoodF W cn f) {w : Nat → Int32} (hW : W' < 2 ^ 31) (hw : ∃ t : Nat → Nat, (∀ c, c < 64 → w c = nI (t c)) ∧ sumN t 64 ≤ W') : GoodF W' cn (setW f w) := by
  refine ⟨?_, ?_, ?_, ?_, ?_, ?_⟩
  · exact G.b
  · exact hW
  · exact by
      refine ⟨?_, fun c hc => ?_, ?_⟩
      · obtain ⟨t, h1, h2⟩ := hw
        exact ⟨t, fun c hc => by rw [setW_at hc]; exact h1 c hc, h2⟩
      · rw [setW_o (by omega)]; exact G.g.pr c hc
      · rw [setW_o (by omega)]; exact G.g.li
  · exact G.p.cg (fun i h1 h2 => setW_o (by omega)) (setW_o (by omega))
  · exact G.c.cg G.b.2.1 (fun i h1 h2 => setW_o (by omega))
  · exact G.n.cg (fun i h1 h2 => setW_o (by omega))
end FM
/-- sums of naturals -/
def updN (g : Nat → Nat) (j x : Nat) : Nat → Nat := fun i => if i = j then x else g i
theorem sumN_updO (g : Nat → Nat) {j : Nat} (x : Nat) : ∀ n, n ≤ j → sumN (updN g j x) n = sumN g n
  | 0, _ => rfl
  | n + 1, h => by
    show sumN (updN g j x) n + updN g j x n = sumN g n + g n
    rw [sumN_updO g x n (by omega)]
    have : updN g j x n = g n := by unfold updN; rw [if_neg (by omega)]
    rw [this]
theorem sumN_upd (g : Nat → Nat) {j : Nat} (x : Nat) : ∀ n, j < n → sumN (updN g j x) n + g j = sumN g n + x
  | 0, h => by omega
  | n + 1, h => by
    show sumN (updN g j x) n + updN g j x n + g j = sumN g n + g n + x
    by_cases e : j = n
    · subst e
      rw [sumN_updO g x j (Nat.le_refl _)]
      have : updN g j x j = x := by unfold updN; rw [if_pos rfl]
      rw [this]; omega
    · have ih := sumN_upd g (j := j) x n (by omega)
      have : updN g j x n = g n := by unfold updN; rw [if_neg (by omega)]
      rw [this]; omega
theorem sumN_ge (t : Nat → Nat) : ∀ {n c : Nat}, c < n → t c ≤ sumN t n
  | 0, c, h => by omega
  | n + 1, c, h => by
    show t c ≤ sumN t n + t n
    by_cases e : c = n
    · subst e; omega
    · have := sumN_ge t (n := n) (c := c) (by omega)
      omega
theorem sumN_mono {s t : Nat → Nat} : ∀ {n : Nat}, (∀ c, c < n → s c ≤ t c) → sumN s n ≤ sumN t n
  | 0, _ => Nat.le_refl _
  | n + 1, h => by
    have h1 := sumN_mono (n := n) (fun c hc => h c (by omega))
    have h2 := h n (by omega)
    show sumN s n + s n ≤ sumN t n + t n
    omega
theorem sumN_cst (t : Nat → Nat) (x : Nat) : ∀ n, sumN (fun c => t c + x) n = sumN t n + n * x
  | 0 => by simp [sumN]
  | n + 1 => by
    show sumN (fun c => t c + x) n + (t n + x) = sumN t n + t n + (n + 1) * x
    rw [sumN_cst t x n, Nat.succ_mul]; omega
theorem sumN_agl (t g l : Nat → Nat) : ∀ n, (∀ c, c < n → l c ≤ t c) → sumN (fun c => t c + g c - l c) n + sumN l n = sumN t n + sumN g n
  | 0, _ => rfl
  | n + 1, h => by
    have ih := sumN_agl t g l n (fun c hc => h c (by omega))
    have h2 := h n (by omega)
    show sumN (fun c => t c + g c - l c) n + (t n + g n - l n) + (sumN l n + l n) = sumN t n + t n + (sumN g n + g n)
    omega
