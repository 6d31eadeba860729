/-! ===== the two parsers, step by step: sums ===== -/
def tyI (x : Nat × Nat) (τ : List Bool) : Option (List Bool) :=
  if x.1 = 0 then (if x.2 < 100000 then some (false :: τ) else none) else if x.1 = 1 then (if x.2 < 8 then some (false :: τ) else none) else if x.1 ≤ 5 then (match τ with | false :: false :: r => some (false :: r) | _ => none) else if x.1 ≤ 8 then (match τ with | false :: false :: r => some (true :: r) | _ => none) else if x.1 ≤ 10 then (match τ with | true :: true :: r => some (true :: r) | _ => none) else if x.1 = 11 then (match τ with | true :: r => some (true :: r) | _ => none) else none
def tyR (c : Nat) : List (Nat × Nat) → List Bool → Option (List Bool)
  | [], τ => some τ
  | x :: E, τ => match tyI x τ with
    | none => none
    | some r => if r.length ≤ c then tyR c E r else none
theorem tyR_cons {c : Nat} {x : Nat × Nat} {E : List (Nat × Nat)} {τ : List Bool} : tyR c (x :: E) τ = (match tyI x τ with
    | none => none
    | some r => if r.length ≤ c then tyR c E r else none) := rfl
theorem tyR_app {c : Nat} : ∀ (A B : List (Nat × Nat)) (τ σ : List Bool), tyR c A τ = some σ → tyR c (A ++ B) τ = tyR c B σ
  | [], B, τ, σ, h => by
    have h2 : some τ = some σ := h
    rw [Option.some.inj h2]; rfl
  | x :: A, B, τ, σ, h => by
    show tyR c (x :: (A ++ B)) τ = _
    rw [tyR_cons] at h ⊢
    cases hx : tyI x τ with
    | none => rw [hx] at h; exact absurd h (by simp)
    | some r =>
      rw [hx] at h
      simp only at h ⊢
      by_cases hr : r.length ≤ c
      · rw [if_pos hr] at h ⊢
        exact tyR_app A B r σ h
      · rw [if_neg hr] at h; exact absurd h (by simp)
theorem tyR_one {c : Nat} {x : Nat × Nat} {τ σ : List Bool} (h : tyI x τ = some σ) (hl : σ.length ≤ c) : tyR c [x] τ = some σ := by
  show (match tyI x τ with
    | none => none
    | some r => if r.length ≤ c then tyR c [] r else none) = _
  rw [h]
  simp only
  rw [if_pos hl]; rfl
def bI (b : Bool) : Int32 := if b = true then 1 else 0
def LKc (t : Nat → Nat) (n o kc p : Nat) (ok : Bool) (q : Nat) (E : List (Nat × Nat)) (L : Nat) : Prop := ∀ (CC : List Int32) (M : am_I) (N : am_N) (post : Int32 → am_I → am_N → Prop), CSt t n p CC M → CC.length + (cs t n - cs t p) ≤ 548 → (∀ M1, FrP1 M M1 → (ok = true → CSt t n q (CC ++ E.map enc) M1) → CFl t n q M1 → post (bI ok) M1 N) → rcR L kc (nI o) M N post
def LKr (t : Nat → Nat) (n o km p : Nat) (ok : Bool) (q : Nat) (E : List (Nat × Nat)) (L : Nat) : Prop := ∀ (SS : List (Nat × Nat)) (M : am_I) (N : am_N) (post : Int32 → am_I → am_N → Prop), RSt t n p o SS M → SS.length + (cs t n - cs t p) ≤ 6300 → (∀ M1, FrQ M M1 → RPf SS M1 → (ok = true → RSt t n q o (SS ++ E) M1) → (ok = false → M1 (3, 0, 0) 49 = nI q) → post (bI ok) M1 N) → rcM L km M N post
def LK (t : Nat → Nat) (n o kc km : Nat) (b : Bool) (d L0 p : Nat) (ok : Bool) (q : Nat) (E : List (Nat × Nat)) : Prop := (TK t n q) ∧ (cs t p ≤ cs t q) ∧ (ok = true → E.length + cs t p ≤ cs t q) ∧ (ok = true → ∀ (τ : List Bool) (c : Nat), τ.length + d ≤ c → tyR c E τ = some (b :: τ)) ∧ (∀ L, L0 ≤ L → LKc t n o kc p ok q E L) ∧ (∀ L, L0 ≤ L → LKr t n o km p ok q E L)
theorem LK.tk {t : Nat → Nat} {n o kc km : Nat} {b : Bool} {d L0 p : Nat} {ok : Bool} {q : Nat} {E : List (Nat × Nat)} (h : LK t n o kc km b d L0 p ok q E) : TK t n q := h.1
theorem LK.mo {t : Nat → Nat} {n o kc km : Nat} {b : Bool} {d L0 p : Nat} {ok : Bool} {q : Nat} {E : List (Nat × Nat)} (h : LK t n o kc km b d L0 p ok q E) : cs t p ≤ cs t q := h.2.1
theorem LK.ln {t : Nat → Nat} {n o kc km : Nat} {b : Bool} {d L0 p : Nat} {ok : Bool} {q : Nat} {E : List (Nat × Nat)} (h : LK t n o kc km b d L0 p ok q E) : ok = true → E.length + cs t p ≤ cs t q := h.2.2.1
theorem LK.ty {t : Nat → Nat} {n o kc km : Nat} {b : Bool} {d L0 p : Nat} {ok : Bool} {q : Nat} {E : List (Nat × Nat)} (h : LK t n o kc km b d L0 p ok q E) : ok = true → ∀ (τ : List Bool) (c : Nat), τ.length + d ≤ c → tyR c E τ = some (b :: τ) := h.2.2.2.1
theorem LK.cl {t : Nat → Nat} {n o kc km : Nat} {b : Bool} {d L0 p : Nat} {ok : Bool} {q : Nat} {E : List (Nat × Nat)} (h : LK t n o kc km b d L0 p ok q E) : ∀ L, L0 ≤ L → LKc t n o kc p ok q E L := h.2.2.2.2.1
theorem LK.rf {t : Nat → Nat} {n o kc km : Nat} {b : Bool} {d L0 p : Nat} {ok : Bool} {q : Nat} {E : List (Nat × Nat)} (h : LK t n o kc km b d L0 p ok q E) : ∀ L, L0 ≤ L → LKr t n o km p ok q E L := h.2.2.2.2.2
def LKA (t : Nat → Nat) (n o kc km : Nat) (b : Bool) (d L0 : Nat) : Prop := ∀ p, TK t n p → ∃ ok q E, LK t n o kc km b d L0 p ok q E
def wI (w : Nat) : List (Nat × Nat) := if w = 0 then [] else if w = 43 then [(2, 0)] else [(3, 0)]
def wT (w : Nat) : List Bool := if w = 0 then [] else [false]
section SU
variable {t : Nat → Nat} {n o p q d L0 : Nat}
theorem tk_pos (h : ¬ tokV t n p = 0) : p < n := by
  refine Nat.lt_of_not_le fun w => h ?_
  unfold tokV
  rw [if_pos w]
theorem tk_pos2 {x : Nat} (h : tokV t n p = nI x) (h0 : 0 < x) (h1 : x < 2 ^ 31) : p < n := tk_pos fun w => by
  rw [w] at h
  have := (nI_eq (a := 0) (by omega) h1).mp h
  omega
theorem CFl.ofS {CC : List Int32} {M : am_I} (S : CSt t n p CC M) (h : CC.length ≤ 548) : CFl t n p M := S.fl h
theorem c_emF {y : Int32} {M : am_I} {N : am_N} {P : Prop} {post : am_I → am_N → Prop} (S : CFl t n p M) (h : ∀ M1, FrP1 M M1 → CFl t n p M1 → P ∧ post M1 N) : w_X7_emit y M N (fun M1 N1 => P ∧ post M1 N1) := c_emitF S h
/-- the class's loop of a sum at its end -/
theorem c_sumEnd {w : Nat} {CC : List Int32} {M : am_I} {N : am_N} {rc : Nat → Int32 → am_I → am_N → (Int32 → am_I → am_N → Prop) → Prop} {post : Int32 → am_I → am_N → Prop} (hw : w = 0 ∨ w = 43 ∨ w = 45) (S : CSt t n p CC M) (hl : CC.length + (wI w).length ≤ 548) (h : ∀ M1, FrP1 M M1 → CSt t n p (CC ++ (wI w).map enc) M1 → post 1 M1 N) : w_X7_readSumO_p115 rc post (nI w) 1 M N := by
  unfold w_X7_readSumO_p115
  rcases hw with r | r | r <;> subst r
  · refine ⟨fun _ => ⟨Or.inr rfl, h M FrP1.rf ?_⟩, fun z => absurd rfl z⟩
    rw [show (wI 0).map enc = [] from rfl, List.append_nil]; exact S
  · exact ⟨fun z => absurd z (by decide), fun _ => c_emit S hl (fun M1 F S1 => ⟨Or.inr rfl, h M1 F S1⟩)⟩
  · exact ⟨fun z => absurd z (by decide), fun _ => c_emit S hl (fun M1 F S1 => ⟨Or.inr rfl, h M1 F S1⟩)⟩
theorem c_sumBad {w : Nat} {l2 : Int32} {M : am_I} {N : am_N} {rc : Nat → Int32 → am_I → am_N → (Int32 → am_I → am_N → Prop) → Prop} {post : Int32 → am_I → am_N → Prop} (S : CFl t n p M) (h : ∀ M1, FrP1 M M1 → CFl t n p M1 → post 0 M1 N) : w_X7_readSumO_p115 rc post l2 0 M N := by
  unfold w_X7_readSumO_p115
  exact ⟨fun _ => ⟨Or.inl rfl, h M FrP1.rf S⟩, fun _ => c_emitF S (fun M1 F S1 => ⟨Or.inl rfl, h M1 F S1⟩)⟩
theorem c_sumOut {j : Nat} {l1 l2 l4 : Int32} {M : am_I} {N : am_N} {rc : Nat → Int32 → am_I → am_N → (Int32 → am_I → am_N → Prop) → Prop} {post : Int32 → am_I → am_N → Prop} (S : CFl t n p M) (h : ∀ M1, FrP1 M M1 → CFl t n p M1 → post 0 M1 N) : w_X7_readSumO_p11 rc post (j + 1) l1 l2 0 l4 M N := by
  rw [w_X7_readSumO_p11_s]
  unfold w_X7_readSumO_p11_b
  have := c_sumBad (w := 0) (l2 := l2) (rc := rc) S h
  exact ⟨fun _ => this, fun _ => ⟨fun _ => this, fun z => absurd rfl z⟩⟩
def SR (t : Nat → Nat) (n o d L0 w p : Nat) (ok : Bool) (q : Nat) (E : List (Nat × Nat)) : Prop := (TK t n q) ∧ (cs t p ≤ cs t q) ∧ (ok = true → E.length + cs t p ≤ cs t q + (wI w).length) ∧ (ok = true → ∀ (τ : List Bool) (c : Nat), τ.length + (d + 2) ≤ c → tyR c E (wT w ++ false :: τ) = some (false :: τ)) ∧ (∀ L, L0 ≤ L → ∀ (CC : List Int32) (M : am_I) (N : am_N) (post : Int32 → am_I → am_N → Prop) (j l4 : Nat), CSt t n p CC M → CC.length + (wI w).length + (cs t n - cs t p) ≤ 548 → cs t n - cs t p + 2 ≤ j → l4 + (cs t n - cs t p) ≤ 500 → (∀ M1, FrP1 M M1 → (ok = true → CSt t n q (CC ++ E.map enc) M1) → CFl t n q M1 → post (bI ok) M1 N) → w_X7_readSumO_p11 (rcR L) post j (nI o) (nI w) 1 (nI l4) M N) ∧ (∀ L, L0 ≤ L → ∀ (SS : List (Nat × Nat)) (M : am_I) (N : am_N) (post K : Int32 → am_I → am_N → Prop) (i j : Nat), RSt t n p o SS M → SS.length + (wI w).length + (cs t n - cs t p) ≤ 6300 → cs t n - cs t p < i → cs t n - cs t p < j → (∀ M N, post 0 M N → K 0 M N) → (∀ p1 SS1 M1, RSt t n p1 o SS1 M1 → SS1.length + (wI w).length ≤ 6300 → (∀ M2, FrQ M1 M2 → RSt t n p1 o (SS1 ++ wI w) M2 → w_X12_exO_p9 (rcM (L + 1)) post j M2 N) → K 1 M1 N) → (∀ M1, FrQ M M1 → RPf SS M1 → (ok = true → RSt t n q o (SS ++ E) M1) → (ok = false → M1 (3, 0, 0) 49 = nI q) → post (bI ok) M1 N) → w_X12_productO_p9 (rcM L) K i M N)
theorem SR.tk {t : Nat → Nat} {n o d L0 w p : Nat} {ok : Bool} {q : Nat} {E : List (Nat × Nat)} (h : SR t n o d L0 w p ok q E) : TK t n q := h.1
theorem SR.mo {t : Nat → Nat} {n o d L0 w p : Nat} {ok : Bool} {q : Nat} {E : List (Nat × Nat)} (h : SR t n o d L0 w p ok q E) : cs t p ≤ cs t q := h.2.1
theorem SR.ln {t : Nat → Nat} {n o d L0 w p : Nat} {ok : Bool} {q : Nat} {E : List (Nat × Nat)} (h : SR t n o d L0 w p ok q E) : ok = true → E.length + cs t p ≤ cs t q + (wI w).length := h.2.2.1
theorem SR.ty {t : Nat → Nat} {n o d L0 w p : Nat} {ok : Bool} {q : Nat} {E : List (Nat × Nat)} (h : SR t n o d L0 w p ok q E) : ok = true → ∀ (τ : List Bool) (c : Nat), τ.length + (d + 2) ≤ c → tyR c E (wT w ++ false :: τ) = some (false :: τ) := h.2.2.2.1
theorem SR.cl {t : Nat → Nat} {n o d L0 w p : Nat} {ok : Bool} {q : Nat} {E : List (Nat × Nat)} (h : SR t n o d L0 w p ok q E) : ∀ L, L0 ≤ L → ∀ (CC : List Int32) (M : am_I) (N : am_N) (post : Int32 → am_I → am_N → Prop) (j l4 : Nat), CSt t n p CC M → CC.length + (wI w).length + (cs t n - cs t p) ≤ 548 → cs t n - cs t p + 2 ≤ j → l4 + (cs t n - cs t p) ≤ 500 → (∀ M1, FrP1 M M1 → (ok = true → CSt t n q (CC ++ E.map enc) M1) → CFl t n q M1 → post (bI ok) M1 N) → w_X7_readSumO_p11 (rcR L) post j (nI o) (nI w) 1 (nI l4) M N := h.2.2.2.2.1
theorem SR.rf {t : Nat → Nat} {n o d L0 w p : Nat} {ok : Bool} {q : Nat} {E : List (Nat × Nat)} (h : SR t n o d L0 w p ok q E) : ∀ L, L0 ≤ L → ∀ (SS : List (Nat × Nat)) (M : am_I) (N : am_N) (post K : Int32 → am_I → am_N → Prop) (i j : Nat), RSt t n p o SS M → SS.length + (wI w).length + (cs t n - cs t p) ≤ 6300 → cs t n - cs t p < i → cs t n - cs t p < j → (∀ M N, post 0 M N → K 0 M N) → (∀ p1 SS1 M1, RSt t n p1 o SS1 M1 → SS1.length + (wI w).length ≤ 6300 → (∀ M2, FrQ M1 M2 → RSt t n p1 o (SS1 ++ wI w) M2 → w_X12_exO_p9 (rcM (L + 1)) post j M2 N) → K 1 M1 N) → (∀ M1, FrQ M M1 → RPf SS M1 → (ok = true → RSt t n q o (SS ++ E) M1) → (ok = false → M1 (3, 0, 0) 49 = nI q) → post (bI ok) M1 N) → w_X12_productO_p9 (rcM L) K i M N := h.2.2.2.2.2
theorem wI_len {w : Nat} (hw : w = 0 ∨ w = 43 ∨ w = 45) : (wI w).length ≤ 1 := by
  rcases hw with r | r | r <;> subst r <;> decide
/-- the reference's loops of a sum, when no sign of a product follows -/
theorem r_prodEnd {L i : Nat} {SS : List (Nat × Nat)} {M : am_I} {N : am_N} {K : Int32 → am_I → am_N → Prop} (S : RSt t n p o SS M) (hk : TK t n p) (h42 : ¬ tokV t n p = nI 42) (h47 : ¬ tokV t n p = nI 47) (h : ∀ M1, FrQ M M1 → RSt t n p o SS M1 → K 1 M1 N) : w_X12_productO_p9 (rcM L) K (i + 1) M N := by
  rw [w_X12_productO_p9_s]
  unfold w_X12_productO_p9_b
  refine q_sign (s := 42) S hk (by decide) (by decide) (fun z => absurd z h42) (fun _ M1 F1 S1 _ => ⟨fun _ => ?_, fun z => absurd rfl z⟩)
  refine q_sign (s := 47) S1 hk (by decide) (by decide) (fun z => absurd z h47) (fun _ M2 F2 S2 _ => ⟨fun _ => ?_, fun z => absurd rfl z⟩)
  unfold w_X12_productO_p36
  exact ⟨fun z => absurd rfl z, fun _ => h M2 ((FrQ.ofA F1).tr (FrQ.ofA F2)) S2⟩
theorem r_prodGo {L i s w : Nat} {SS : List (Nat × Nat)} {M : am_I} {N : am_N} {K : Int32 → am_I → am_N → Prop} (S : RSt t n p o SS M) (hk : TK t n p) (hs : (s = 42 ∧ w = 4) ∨ (s = 47 ∧ w = 5)) (e : tokV t n p = nI s) (h : ∀ M1, FrQ M M1 → RSt t n (nxT t n p) o SS M1 → rcM L 5 M1 N (fun zr1 zM2 zN3 => ((¬ zr1 = 0 → w_X12_puts (nI w) 0 zM2 zN3 (fun zM4 zN5 => w_X12_productO_p9 (rcM L) K i zM4 zN5)) ∧ (zr1 = 0 → K 0 zM2 zN3)))) : w_X12_productO_p9 (rcM L) K (i + 1) M N := by
  rw [w_X12_productO_p9_s]
  unfold w_X12_productO_p9_b
  rcases hs with ⟨r, r2⟩ | ⟨r, r2⟩ <;> subst r <;> subst r2
  · refine q_sign (s := 42) S hk (by decide) (by decide) (fun _ _ M1 F1 S1 => ⟨fun z => absurd z (by decide), fun _ => ?_⟩) (fun z => absurd e z)
    unfold w_X12_productO_p36
    exact ⟨fun _ => h M1 (FrQ.ofA F1) S1, fun z => absurd z (by decide)⟩
  · refine q_sign (s := 42) S hk (by decide) (by decide) (fun z => absurd (e.symm.trans z) (by decide)) (fun _ M1 F1 S1 _ => ⟨fun _ => ?_, fun z => absurd rfl z⟩)
    refine q_sign (s := 47) S1 hk (by decide) (by decide) (fun _ _ M2 F2 S2 => ⟨fun z => absurd z (by decide), fun _ => ?_⟩) (fun z => absurd e z)
    unfold w_X12_productO_p36
    exact ⟨fun _ => h M2 ((FrQ.ofA F1).tr (FrQ.ofA F2)) S2, fun z => absurd z (by decide)⟩
theorem r_exEnd {rc : Nat → am_I → am_N → (Int32 → am_I → am_N → Prop) → Prop} {j : Nat} {SS : List (Nat × Nat)} {M : am_I} {N : am_N} {post : Int32 → am_I → am_N → Prop} (S : RSt t n p o SS M) (hk : TK t n p) (h43 : ¬ tokV t n p = nI 43) (h45 : ¬ tokV t n p = nI 45) (h : ∀ M1, FrQ M M1 → RSt t n p o SS M1 → post 1 M1 N) : w_X12_exO_p9 rc post (j + 1) M N := by
  rw [w_X12_exO_p9_s]
  unfold w_X12_exO_p9_b
  refine q_sign (s := 43) S hk (by decide) (by decide) (fun z => absurd z h43) (fun _ M1 F1 S1 _ => ⟨fun _ => ?_, fun z => absurd rfl z⟩)
  refine q_sign (s := 45) S1 hk (by decide) (by decide) (fun z => absurd z h45) (fun _ M2 F2 S2 _ => ⟨fun _ => ?_, fun z => absurd rfl z⟩)
  unfold w_X12_exO_p36
  exact ⟨fun z => absurd rfl z, fun _ => h M2 ((FrQ.ofA F1).tr (FrQ.ofA F2)) S2⟩
theorem r_exGo {rc : Nat → am_I → am_N → (Int32 → am_I → am_N → Prop) → Prop} {j s w : Nat} {SS : List (Nat × Nat)} {M : am_I} {N : am_N} {post : Int32 → am_I → am_N → Prop} (S : RSt t n p o SS M) (hk : TK t n p) (hs : (s = 43 ∧ w = 2) ∨ (s = 45 ∧ w = 3)) (e : tokV t n p = nI s) (h : ∀ M1, FrQ M M1 → RSt t n (nxT t n p) o SS M1 → rc 4 M1 N (fun zr1 zM2 zN3 => ((¬ zr1 = 0 → w_X12_puts (nI w) 0 zM2 zN3 (fun zM4 zN5 => w_X12_exO_p9 rc post j zM4 zN5)) ∧ (zr1 = 0 → post 0 zM2 zN3)))) : w_X12_exO_p9 rc post (j + 1) M N := by
  rw [w_X12_exO_p9_s]
  unfold w_X12_exO_p9_b
  rcases hs with ⟨r, r2⟩ | ⟨r, r2⟩ <;> subst r <;> subst r2
  · refine q_sign (s := 43) S hk (by decide) (by decide) (fun _ _ M1 F1 S1 => ⟨fun z => absurd z (by decide), fun _ => ?_⟩) (fun z => absurd e z)
    unfold w_X12_exO_p36
    exact ⟨fun _ => h M1 (FrQ.ofA F1) S1, fun z => absurd z (by decide)⟩
  · refine q_sign (s := 43) S hk (by decide) (by decide) (fun z => absurd (e.symm.trans z) (by decide)) (fun _ M1 F1 S1 _ => ⟨fun _ => ?_, fun z => absurd rfl z⟩)
    refine q_sign (s := 45) S1 hk (by decide) (by decide) (fun _ _ M2 F2 S2 => ⟨fun z => absurd z (by decide), fun _ => ?_⟩) (fun z => absurd e z)
    unfold w_X12_exO_p36
    exact ⟨fun _ => h M2 ((FrQ.ofA F1).tr (FrQ.ofA F2)) S2, fun z => absurd z (by decide)⟩
/-- one turn of the class's loop of a sum -/
theorem c_sumStep {L j l4 w : Nat} {CC : List Int32} {M : am_I} {N : am_N} {post : Int32 → am_I → am_N → Prop} (hn : n ≤ 500) (S : CSt t n p CC M) (hk : TK t n p) (h4 : l4 < 500 ∨ p = n) (hm : ∀ s, tokV t n p = nI s → (s = 42 ∨ s = 47) → p < n → l4 < 500 → w_X7_readSumO_p85 (rcR L) post (w_X7_readSumO_p11 (rcR L) post j) (nI o) (nI w) (nI l4) (nI s) 1 (am_u M (0, 0, 7) 6 (M (0, 0, 7) 6 + 1)) N) (ha : ∀ s, tokV t n p = nI s → (s = 43 ∨ s = 45) → p < n → l4 < 500 → w_X7_readSumO_p68 (rcR L) post (w_X7_readSumO_p11 (rcR L) post j) (nI o) (nI w) (nI l4) (nI s) 0 (am_u M (0, 0, 7) 6 (M (0, 0, 7) 6 + 1)) N) (he : ¬ tokV t n p = nI 42 → ¬ tokV t n p = nI 47 → ¬ tokV t n p = nI 43 → ¬ tokV t n p = nI 45 → w_X7_readSumO_p115 (rcR L) post (nI w) 1 M N) : w_X7_readSumO_p11 (rcR L) post (j + 1) (nI o) (nI w) 1 (nI l4) M N := by
  rw [w_X7_readSumO_p11_s]
  unfold w_X7_readSumO_p11_b
  refine ⟨fun z => ?_, fun z => ⟨fun w => absurd w (by decide), fun _ => ?_⟩⟩
  · rcases h4 with h4 | h4
    · exact absurd z (nI_ge (b := 500) h4 (by omega))
    · have : tokV t n p = 0 := by
        unfold tokV
        rw [if_pos (by omega)]
      rw [this] at he
      exact he (by decide) (by decide) (by decide) (by decide)
  · refine c_here S.k hn S.c hk ?_
    unfold w_X7_isOperator
    have l4b : l4 < 500 ∨ p = n := h4
    have lt : p < n → l4 < 500 := fun hp => by omega
    have go : ∀ (s : Nat), tokV t n p = nI s → (s = 43 ∨ s = 45 ∨ s = 42 ∨ s = 47) → ((((1 : Int32) = 0 → w_X7_readSumO_p115 (rcR L) post (nI w) 1 M N) ∧ (¬ (1 : Int32) = 0 → w_X7_here M N (fun zr7 zM8 zN9 => ((zr7 = 42 → w_X7_readSumO_p68 (rcR L) post (w_X7_readSumO_p11 (rcR L) post j) (nI o) (nI w) (nI l4) zr7 1 (am_u zM8 (0, 0, 7) 6 ((zM8 (0, 0, 7) 6) + 1)) zN9) ∧ (¬ zr7 = 42 → ((¬ zr7 = 47 → w_X7_readSumO_p68 (rcR L) post (w_X7_readSumO_p11 (rcR L) post j) (nI o) (nI w) (nI l4) zr7 0 (am_u zM8 (0, 0, 7) 6 ((zM8 (0, 0, 7) 6) + 1)) zN9) ∧ (zr7 = 47 → w_X7_readSumO_p68 (rcR L) post (w_X7_readSumO_p11 (rcR L) post j) (nI o) (nI w) (nI l4) zr7 1 (am_u zM8 (0, 0, 7) 6 ((zM8 (0, 0, 7) 6) + 1)) zN9)))))))) := by
      intro s e hs
      have hp : p < n := tk_pos2 e (by omega) (by omega)
      refine ⟨fun z => absurd z (by decide), fun _ => c_here S.k hn S.c hk ?_⟩
      have q : ∀ a b : Nat, a < 100 → b < 100 → nI a = nI b → a = b := fun a b h1 h2 => (nI_eq (by omega) (by omega)).mp
      rw [e]
      refine ⟨fun z => ?_, fun z => ⟨fun z2 => ha s e ?_ hp (lt hp), fun z2 => ?_⟩⟩
      · have := q s 42 (by omega) (by omega) z
        unfold w_X7_readSumO_p68
        exact ⟨fun _ => hm s e (Or.inl this) hp (lt hp), fun z => absurd z (by decide)⟩
      · have : s ≠ 42 := fun r => z (by rw [r]; rfl)
        have : s ≠ 47 := fun r => z2 (by rw [r]; rfl)
        omega
      · have := q s 47 (by omega) (by omega) z2
        unfold w_X7_readSumO_p68
        exact ⟨fun _ => hm s e (Or.inr this) hp (lt hp), fun z => absurd z (by decide)⟩
    exact ⟨fun z => go 43 z (by omega), fun z1 => ⟨fun z => go 45 z (by omega), fun z2 => ⟨fun z => go 42 z (by omega), fun z3 => ⟨fun z4 => ⟨fun _ => he z3 z4 z1 z2, fun z => absurd rfl z⟩, fun z => go 47 z (by omega)⟩⟩⟩⟩
theorem c_wait {L w : Nat} {CC : List Int32} {M : am_I} {N : am_N} {l1 l4 l5 : Int32} {zk : Int32 → Int32 → Int32 → Int32 → am_I → am_N → Prop} {post : Int32 → am_I → am_N → Prop} (hw : w = 0 ∨ w = 43 ∨ w = 45) (S : CSt t n p CC M) (hl : CC.length + (wI w).length ≤ 548) (h : ∀ M1, FrP1 M M1 → CSt t n p (CC ++ (wI w).map enc) M1 → w_X7_readSumO_p85 (rcR L) post zk l1 (nI w) l4 l5 0 M1 N) : w_X7_readSumO_p68 (rcR L) post zk l1 (nI w) l4 l5 0 M N := by
  unfold w_X7_readSumO_p68
  refine ⟨fun z => absurd rfl z, fun _ => ?_⟩
  rcases hw with r | r | r <;> subst r
  · refine ⟨fun _ => h M FrP1.rf ?_, fun z => absurd rfl z⟩
    rw [show (wI 0).map enc = [] from rfl, List.append_nil]; exact S
  · exact ⟨fun z => absurd z (by decide), fun _ => c_emit S hl (fun M1 F S1 => h M1 F S1)⟩
  · exact ⟨fun z => absurd z (by decide), fun _ => c_emit S hl (fun M1 F S1 => h M1 F S1)⟩
theorem ty_op {c s x : Nat} {τ : List Bool} (hs : (s = 42 ∧ x = 4) ∨ (s = 47 ∧ x = 5) ∨ (s = 43 ∧ x = 2) ∨ (s = 45 ∧ x = 3)) (hc : τ.length + 1 ≤ c) : tyR c [(x, 0)] (false :: false :: τ) = some (false :: τ) := by
  refine tyR_one ?_ hc
  rcases hs with ⟨_, r⟩ | ⟨_, r⟩ | ⟨_, r⟩ | ⟨_, r⟩ <;> subst r <;> rfl
theorem sum_rest (hn : n ≤ 500) (hA : LKA t n o 3 5 false d L0) : ∀ r p w, TK t n p → cs t n - cs t p < r → (w = 0 ∨ w = 43 ∨ w = 45) → ∃ ok q E, SR t n o d L0 w p ok q E := by
  intro r
  induction r with
  | zero => intro p w _ h _; omega
  | succ r ih =>
    intro p w hk hr hw
    have hpn := cs_mono (t := t) hk.1
    have hwl := wI_len hw
    by_cases hm : ∃ s x, ((s = 42 ∧ x = 4) ∨ (s = 47 ∧ x = 5)) ∧ tokV t n p = nI s
    · obtain ⟨s, x, hs, e⟩ := hm
      have hp : p < n := tk_pos2 e (by omega) (by omega)
      obtain ⟨_, k1, c1, _⟩ := nx_sp hk hp
      have hqn := cs_mono (t := t) k1.1
      obtain ⟨ok1, q1, E1, A⟩ := hA _ k1
      have hq1 := cs_mono (t := t) A.tk.1
      have amo := A.mo
      have qq : ∀ a b : Nat, a < 100 → b < 100 → nI a = nI b → a = b := fun a b h1 h2 => (nI_eq (by omega) (by omega)).mp
      have sx : ∀ s', tokV t n p = nI s' → s' < 100 → s' = s := fun s' h1 h2 => qq s' s h2 (by omega) (h1.symm.trans e)
      have hno : ¬ tokV t n p = nI 42 → ¬ tokV t n p = nI 47 → False := fun z1 z2 => by
        rcases hs with ⟨r, _⟩ | ⟨r, _⟩
        · rw [r] at e; exact z1 e
        · rw [r] at e; exact z2 e
      cases ok1 with
      | false =>
        refine ⟨false, q1, [], A.tk, by omega, fun z => (nomatch z), fun z => (nomatch z), ?_, ?_⟩
        · intro L hL CC M N post j l4 S hroom hj hl4 hpost
          obtain ⟨j', rfl⟩ : ∃ j', j = j' + 2 := ⟨j - 2, by omega⟩
          refine c_sumStep hn S hk (by omega) (fun s' e' hs' _ _ => ?_) (fun s' e' hs' _ _ => by have := sx s' e' (by omega); omega) (fun z1 z2 _ _ => (hno z1 z2).elim)
          obtain ⟨F1, S1⟩ := S.adv hk hp
          unfold w_X7_readSumO_p85
          refine A.cl L hL CC _ N _ S1 (by omega) (fun M1 F2 _ C => ⟨fun z => absurd z (by decide), fun _ => ?_⟩)
          refine c_emitF C (fun M2 F3 C2 => ?_)
          exact c_sumOut C2 (fun M3 F4 C3 => hpost M3 ((F1.tr F2).tr (F3.tr F4)) (fun z => (nomatch z)) C3)
        · intro L hL SS M N post K i j S hroom hi hj hK0 hK1 hpost
          obtain ⟨i', rfl⟩ : ∃ i', i = i' + 1 := ⟨i - 1, by omega⟩
          refine r_prodGo S hk hs e (fun M1 F1 S1 => ?_)
          exact A.rf L hL SS M1 N _ S1 (by omega) (fun M2 F2 P2 _ h2 => ⟨fun z => absurd rfl z, fun _ => hK0 _ _ (hpost M2 (F1.tr F2) P2 (fun z => (nomatch z)) (fun _ => h2 rfl))⟩)
      | true =>
        obtain ⟨ok, q, E2, R⟩ := ih q1 w A.tk (by omega) hw
        have aln := A.ln rfl
        have rmo := R.mo
        refine ⟨ok, q, E1 ++ (x, 0) :: E2, R.tk, by omega, fun z => ?_, fun z τ c hc => ?_, ?_, ?_⟩
        · have := R.ln z
          rw [List.length_append, List.length_cons]
          omega
        · have lw : (wT w ++ false :: τ).length + d ≤ c := by
            rw [List.length_append, List.length_cons]
            rcases hw with r | r | r <;> subst r
            · show 0 + (τ.length + 1) + d ≤ c; omega
            · show 1 + (τ.length + 1) + d ≤ c; omega
            · show 1 + (τ.length + 1) + d ≤ c; omega
          rw [tyR_app E1 _ _ _ (A.ty rfl _ c lw)]
          have h1 : tyR c [(x, 0)] (false :: (wT w ++ false :: τ)) = some (wT w ++ false :: τ) := by
            rcases hw with r | r | r <;> subst r
            · exact ty_op (s := s) (by omega) (by omega)
            · exact ty_op (s := s) (τ := false :: τ) (by omega) (by rw [List.length_cons]; omega)
            · exact ty_op (s := s) (τ := false :: τ) (by omega) (by rw [List.length_cons]; omega)
          show tyR c ([(x, 0)] ++ E2) _ = _
          rw [tyR_app [(x, 0)] E2 _ _ h1]
          exact R.ty z τ c hc
        · intro L hL CC M N post j l4 S hroom hj hl4 hpost
          obtain ⟨j', rfl⟩ : ∃ j', j = j' + 1 := ⟨j - 1, by omega⟩
          refine c_sumStep hn S hk (by omega) (fun s' e' hs' _ _ => ?_) (fun s' e' hs' _ _ => by have := sx s' e' (by omega); omega) (fun z1 z2 _ _ => (hno z1 z2).elim)
          have hss := sx s' e' (by omega)
          subst hss
          obtain ⟨F1, S1⟩ := S.adv hk hp
          unfold w_X7_readSumO_p85
          refine A.cl L hL CC _ N _ S1 (by omega) (fun M1 F2 S2 _ => ⟨fun z => absurd z (by decide), fun _ => ?_⟩)
          have S2' := S2 rfl
          have ll : (CC ++ E1.map enc).length = CC.length + E1.length := by rw [List.length_append, List.length_map]
          refine c_emit S2' (by omega) (fun M2 F3 S3 => ?_)
          rw [nI_1]
          have ll3 : (CC ++ E1.map enc ++ [-nI s']).length = CC.length + E1.length + 1 := by rw [List.length_append, ll]; rfl
          refine R.cl L hL _ M2 N post j' (l4 + 1) S3 (by omega) (by omega) (by omega) (fun M3 F4 h1 h2 => hpost M3 ((F1.tr F2).tr (F3.tr F4)) (fun z => ?_) h2)
          have e1 : CC ++ (E1 ++ (x, 0) :: E2).map enc = CC ++ E1.map enc ++ [-nI s'] ++ E2.map enc := by
            have e2 : enc (x, 0) = -nI s' := by rcases hs with ⟨r1, r2⟩ | ⟨r1, r2⟩ <;> subst r1 <;> subst r2 <;> rfl
            rw [List.map_append, List.map_cons, e2, List.append_assoc, List.append_assoc]; rfl
          rw [e1]
          exact h1 z
        · intro L hL SS M N post K i j S hroom hi hj hK0 hK1 hpost
          obtain ⟨i', rfl⟩ : ∃ i', i = i' + 1 := ⟨i - 1, by omega⟩
          refine r_prodGo S hk hs e (fun M1 F1 S1 => ?_)
          refine A.rf L hL SS M1 N _ S1 (by omega) (fun M2 F2 P2 S2 _ => ⟨fun _ => ?_, fun z => absurd z (by decide)⟩)
          have S2' := S2 rfl
          have ll : (SS ++ E1).length = SS.length + E1.length := List.length_append
          refine q_puts (w := x) (x := 0) S2' (by omega) (fun M3 F3 S3 => ?_)
          have ll3 : (SS ++ E1 ++ [(x, 0)]).length = SS.length + E1.length + 1 := by rw [List.length_append, ll]; rfl
          refine R.rf L hL _ M3 N post K i' j S3 (by omega) (by omega) (by omega) hK0 hK1 (fun M4 F4 P4 h1 h2 => hpost M4 ((F1.tr F2).tr (F3.tr F4)) P4.pre.pre (fun z => ?_) h2)
          have e1 : SS ++ (E1 ++ (x, 0) :: E2) = SS ++ E1 ++ [(x, 0)] ++ E2 := by
            rw [List.append_assoc, List.append_assoc]; rfl
          rw [e1]
          exact h1 z
    · by_cases ha : ∃ s x, ((s = 43 ∧ x = 2) ∨ (s = 45 ∧ x = 3)) ∧ tokV t n p = nI s
      · obtain ⟨s, x, hs, e⟩ := ha
        have hp : p < n := tk_pos2 e (by omega) (by omega)
        obtain ⟨_, k1, c1, _⟩ := nx_sp hk hp
        have hqn := cs_mono (t := t) k1.1
        obtain ⟨ok1, q1, E1, A⟩ := hA _ k1
        have hq1 := cs_mono (t := t) A.tk.1
        have amo := A.mo
        have qq : ∀ a b : Nat, a < 100 → b < 100 → nI a = nI b → a = b := fun a b h1 h2 => (nI_eq (by omega) (by omega)).mp
        have sx : ∀ s', tokV t n p = nI s' → s' < 100 → s' = s := fun s' h1 h2 => qq s' s h2 (by omega) (h1.symm.trans e)
        have h42 : ¬ tokV t n p = nI 42 := fun z => by have := sx 42 z (by omega); omega
        have h47 : ¬ tokV t n p = nI 47 := fun z => by have := sx 47 z (by omega); omega
        have hsw : s = 0 ∨ s = 43 ∨ s = 45 := by omega
        have wis : wI s = [(x, 0)] ∧ wT s = [false] := by rcases hs with ⟨r1, r2⟩ | ⟨r1, r2⟩ <;> subst r1 <;> subst r2 <;> exact ⟨rfl, rfl⟩
        have wsl : (wI s).length = 1 := by rw [wis.1]; rfl
        have hno : ¬ tokV t n p = nI 43 → ¬ tokV t n p = nI 45 → False := fun z1 z2 => by
          rcases hs with ⟨r, _⟩ | ⟨r, _⟩
          · rw [r] at e; exact z1 e
          · rw [r] at e; exact z2 e
        cases ok1 with
        | false =>
          refine ⟨false, q1, [], A.tk, by omega, fun z => (nomatch z), fun z => (nomatch z), ?_, ?_⟩
          · intro L hL CC M N post j l4 S hroom hj hl4 hpost
            obtain ⟨j', rfl⟩ : ∃ j', j = j' + 2 := ⟨j - 2, by omega⟩
            refine c_sumStep hn S hk (by omega) (fun s' e' hs' _ _ => by have := sx s' e' (by omega); omega) (fun s' e' hs' _ _ => ?_) (fun _ _ z1 z2 => (hno z1 z2).elim)
            obtain ⟨F1, S1⟩ := S.adv hk hp
            refine c_wait hw S1 (by omega) (fun M0 F0 S0 => ?_)
            have ll : (CC ++ (wI w).map enc).length = CC.length + (wI w).length := by rw [List.length_append, List.length_map]
            unfold w_X7_readSumO_p85
            refine A.cl L hL _ _ N _ S0 (by omega) (fun M1 F2 _ C => ⟨fun _ => ?_, fun z => absurd rfl z⟩)
            exact c_sumOut C (fun M3 F4 C3 => hpost M3 ((F1.tr F0).tr (F2.tr F4)) (fun z => (nomatch z)) C3)
          · intro L hL SS M N post K i j S hroom hi hj hK0 hK1 hpost
            obtain ⟨i', rfl⟩ : ∃ i', i = i' + 1 := ⟨i - 1, by omega⟩
            obtain ⟨j', rfl⟩ : ∃ j', j = j' + 1 := ⟨j - 1, by omega⟩
            refine r_prodEnd S hk h42 h47 (fun M1 F1 S1 => hK1 p SS M1 S1 (by omega) (fun M2 F2 S2 => ?_))
            refine r_exGo S2 hk hs e (fun M3 F3 S3 => ?_)
            have ll : (SS ++ wI w).length = SS.length + (wI w).length := List.length_append
            rw [rcM_4]
            unfold w_X12_productO
            exact A.rf L hL _ M3 N _ S3 (by omega) (fun M4 F4 P4 _ h2 => ⟨fun z => absurd rfl z, fun _ => ⟨fun z => absurd rfl z, fun _ => hpost M4 ((F1.tr F2).tr (F3.tr F4)) P4.pre (fun z => (nomatch z)) (fun _ => h2 rfl)⟩⟩)
        | true =>
          obtain ⟨ok, q, E2, R⟩ := ih q1 s A.tk (by omega) hsw
          have aln := A.ln rfl
          have rmo := R.mo
          refine ⟨ok, q, wI w ++ (E1 ++ E2), R.tk, by omega, fun z => ?_, fun z τ c hc => ?_, ?_, ?_⟩
          · have := R.ln z
            rw [List.length_append, List.length_append]
            omega
          · have h1 : tyR c (wI w) (wT w ++ false :: τ) = some (false :: τ) := by
              rcases hw with r | r | r <;> subst r
              · rfl
              · exact ty_op (s := 43) (x := 2) (by omega) (by omega)
              · exact ty_op (s := 45) (x := 3) (by omega) (by omega)
            rw [tyR_app (wI w) _ _ _ h1, tyR_app E1 _ _ _ (A.ty rfl _ c (by rw [List.length_cons]; omega))]
            have h2 := R.ty z τ c hc
            rw [wis.2] at h2
            exact h2
          · intro L hL CC M N post j l4 S hroom hj hl4 hpost
            obtain ⟨j', rfl⟩ : ∃ j', j = j' + 1 := ⟨j - 1, by omega⟩
            refine c_sumStep hn S hk (by omega) (fun s' e' hs' _ _ => by have := sx s' e' (by omega); omega) (fun s' e' hs' _ _ => ?_) (fun _ _ z1 z2 => (hno z1 z2).elim)
            have hss := sx s' e' (by omega)
            subst hss
            obtain ⟨F1, S1⟩ := S.adv hk hp
            refine c_wait hw S1 (by omega) (fun M0 F0 S0 => ?_)
            have ll : (CC ++ (wI w).map enc).length = CC.length + (wI w).length := by rw [List.length_append, List.length_map]
            unfold w_X7_readSumO_p85
            refine A.cl L hL _ _ N _ S0 (by omega) (fun M1 F2 S2 _ => ⟨fun _ => ?_, fun z => absurd rfl z⟩)
            have S2' := S2 rfl
            rw [nI_1]
            have ll3 : (CC ++ (wI w).map enc ++ E1.map enc).length = CC.length + (wI w).length + E1.length := by rw [List.length_append, ll, List.length_map]
            refine R.cl L hL _ M1 N post j' (l4 + 1) S2' (by omega) (by omega) (by omega) (fun M3 F4 h1 h2 => hpost M3 ((F1.tr F0).tr (F2.tr F4)) (fun z => ?_) h2)
            have e1 : CC ++ (wI w ++ (E1 ++ E2)).map enc = CC ++ (wI w).map enc ++ E1.map enc ++ E2.map enc := by
              rw [List.map_append, List.map_append, List.append_assoc, List.append_assoc]
            rw [e1]
            exact h1 z
          · intro L hL SS M N post K i j S hroom hi hj hK0 hK1 hpost
            obtain ⟨i', rfl⟩ : ∃ i', i = i' + 1 := ⟨i - 1, by omega⟩
            obtain ⟨j', rfl⟩ : ∃ j', j = j' + 1 := ⟨j - 1, by omega⟩
            refine r_prodEnd S hk h42 h47 (fun M1 F1 S1 => hK1 p SS M1 S1 (by omega) (fun M2 F2 S2 => ?_))
            refine r_exGo S2 hk hs e (fun M3 F3 S3 => ?_)
            have ll : (SS ++ wI w).length = SS.length + (wI w).length := List.length_append
            rw [rcM_4]
            unfold w_X12_productO
            refine A.rf L hL _ M3 N _ S3 (by omega) (fun M4 F4 P4 S4 _ => ⟨fun _ => ⟨i', ?_⟩, fun z => absurd z (by decide)⟩)
            have ll3 : (SS ++ wI w ++ E1).length = SS.length + (wI w).length + E1.length := by rw [List.length_append, ll]
            refine R.rf L hL _ M4 N post _ i' j' (S4 rfl) (by omega) (by omega) (by omega) (fun M5 N5 h5 => ⟨fun z => absurd rfl z, fun _ => h5⟩) (fun p1 SS1 M5 S5 hr5 h5 => ⟨fun _ => q_puts (w := x) (x := 0) S5 (by omega) (fun M6 F6 S6 => h5 M6 F6 (by rw [wis.1]; exact S6)), fun z => absurd z (by decide)⟩) (fun M5 F5 P5 h1 h2 => hpost M5 (((F1.tr F2).tr (F3.tr F4)).tr F5) P5.pre.pre (fun z => ?_) h2)
            have e1 : SS ++ (wI w ++ (E1 ++ E2)) = SS ++ wI w ++ E1 ++ E2 := by
              rw [List.append_assoc, List.append_assoc]
            rw [e1]
            exact h1 z
      · have n42 : ¬ tokV t n p = nI 42 := fun z => hm ⟨42, 4, Or.inl ⟨rfl, rfl⟩, z⟩
        have n47 : ¬ tokV t n p = nI 47 := fun z => hm ⟨47, 5, Or.inr ⟨rfl, rfl⟩, z⟩
        have n43 : ¬ tokV t n p = nI 43 := fun z => ha ⟨43, 2, Or.inl ⟨rfl, rfl⟩, z⟩
        have n45 : ¬ tokV t n p = nI 45 := fun z => ha ⟨45, 3, Or.inr ⟨rfl, rfl⟩, z⟩
        refine ⟨true, p, wI w, hk, Nat.le_refl _, fun _ => by omega, fun _ τ c hc => ?_, ?_, ?_⟩
        · rcases hw with r | r | r <;> subst r
          · rfl
          · exact ty_op (s := 43) (x := 2) (by omega) (by omega)
          · exact ty_op (s := 45) (x := 3) (by omega) (by omega)
        · intro L hL CC M N post j l4 S hroom hj hl4 hpost
          obtain ⟨j', rfl⟩ : ∃ j', j = j' + 1 := ⟨j - 1, by omega⟩
          have ll : (CC ++ (wI w).map enc).length = CC.length + (wI w).length := by rw [List.length_append, List.length_map]
          have fin := c_sumEnd (rc := rcR L) (post := post) (N := N) hw S (by omega) (fun M1 F S1 => hpost M1 F (fun _ => S1) (S1.fl (by omega)))
          by_cases h5 : l4 < 500
          · exact c_sumStep hn S hk (Or.inl h5) (fun s' e' hs' _ _ => (hs'.elim (fun r => n42 (by rw [← r]; exact e')) (fun r => n47 (by rw [← r]; exact e'))).elim) (fun s' e' hs' _ _ => (hs'.elim (fun r => n43 (by rw [← r]; exact e')) (fun r => n45 (by rw [← r]; exact e'))).elim) (fun _ _ _ _ => fin)
          · rw [w_X7_readSumO_p11_s]
            unfold w_X7_readSumO_p11_b
            exact ⟨fun _ => fin, fun z => absurd (nI_le (a := 500) (by omega) (by omega)) z⟩
        · intro L hL SS M N post K i j S hroom hi hj hK0 hK1 hpost
          obtain ⟨i', rfl⟩ : ∃ i', i = i' + 1 := ⟨i - 1, by omega⟩
          obtain ⟨j', rfl⟩ : ∃ j', j = j' + 1 := ⟨j - 1, by omega⟩
          refine r_prodEnd S hk n42 n47 (fun M1 F1 S1 => hK1 p SS M1 S1 (by omega) (fun M2 F2 S2 => ?_))
          exact r_exEnd S2 hk n43 n45 (fun M3 F3 S3 => hpost M3 ((F1.tr F2).tr F3) S3.l.pre (fun _ => S3) (fun z => (nomatch z)))
theorem LK_ex (hn : n ≤ 500) (hA : LKA t n o 3 5 false d L0) : LKA t n o 2 3 false (d + 2) (L0 + 2) := by
  intro p hk
  obtain ⟨ok1, q1, E1, A⟩ := hA p hk
  have hq1 := cs_mono (t := t) A.tk.1
  have amo := A.mo
  have c5 := (cs_501 (t := t) hn (Nat.le_refl n)).1
  cases ok1 with
  | false =>
    refine ⟨false, q1, [], A.tk, amo, fun z => (nomatch z), fun z => (nomatch z), ?_, ?_⟩
    · intro L hL CC M N post S hroom hpost
      obtain ⟨L', rfl⟩ : ∃ L', L = L' + 1 := ⟨L - 1, by omega⟩
      rw [rcR_2]
      unfold w_X7_readSumO
      exact A.cl L' (by omega) CC M N _ S hroom (fun M1 F1 _ C => ⟨1, c_sumOut C (fun M2 F2 C2 => hpost M2 (F1.tr F2) (fun z => (nomatch z)) C2)⟩)
    · intro L hL SS M N post S hroom hpost
      obtain ⟨L', rfl⟩ : ∃ L', L = L' + 2 := ⟨L - 2, by omega⟩
      rw [rcM_3]
      unfold w_X12_exO
      rw [rcM_4]
      unfold w_X12_productO
      exact A.rf L' (by omega) SS M N _ S hroom (fun M1 F1 P1 _ h2 => ⟨fun z => absurd rfl z, fun _ => ⟨fun z => absurd rfl z, fun _ => hpost M1 F1 P1 (fun z => (nomatch z)) h2⟩⟩)
  | true =>
    obtain ⟨ok, q, E2, R⟩ := sum_rest hn hA _ q1 0 A.tk (Nat.lt_succ_self _) (Or.inl rfl)
    have aln := A.ln rfl
    have rmo := R.mo
    have w0 : (wI 0).length = 0 := rfl
    refine ⟨ok, q, E1 ++ E2, R.tk, by omega, fun z => ?_, fun z τ c hc => ?_, ?_, ?_⟩
    · have := R.ln z
      rw [List.length_append]; omega
    · rw [tyR_app E1 _ _ _ (A.ty rfl τ c (by omega))]
      exact R.ty z τ c hc
    · intro L hL CC M N post S hroom hpost
      obtain ⟨L', rfl⟩ : ∃ L', L = L' + 1 := ⟨L - 1, by omega⟩
      rw [rcR_2]
      unfold w_X7_readSumO
      have ll : (CC ++ E1.map enc).length = CC.length + E1.length := by rw [List.length_append, List.length_map]
      refine A.cl L' (by omega) CC M N _ S hroom (fun M1 F1 S1 _ => ⟨cs t n - cs t q1 + 2, ?_⟩)
      refine R.cl L' (by omega) _ M1 N post _ 0 (S1 rfl) (by omega) (Nat.le_refl _) (by omega) (fun M2 F2 h1 h2 => hpost M2 (F1.tr F2) (fun z => ?_) h2)
      rw [List.map_append, ← List.append_assoc]
      exact h1 z
    · intro L hL SS M N post S hroom hpost
      obtain ⟨L', rfl⟩ : ∃ L', L = L' + 2 := ⟨L - 2, by omega⟩
      rw [rcM_3]
      unfold w_X12_exO
      rw [rcM_4]
      unfold w_X12_productO
      have ll : (SS ++ E1).length = SS.length + E1.length := List.length_append
      refine A.rf L' (by omega) SS M N _ S hroom (fun M1 F1 P1 S1 _ => ⟨fun _ => ⟨cs t n - cs t q1 + 1, ?_⟩, fun z => absurd z (by decide)⟩)
      refine R.rf L' (by omega) _ M1 N post _ _ (cs t n - cs t q1 + 1) (S1 rfl) (by omega) (Nat.lt_succ_self _) (Nat.lt_succ_self _) (fun M5 N5 h5 => ⟨fun z => absurd rfl z, fun _ => h5⟩) (fun p1 SS1 M5 S5 hr5 h5 => ⟨fun _ => ⟨_, h5 M5 FrQ.rf (by rw [show wI 0 = [] from rfl, List.append_nil]; exact S5)⟩, fun z => absurd z (by decide)⟩) (fun M2 F2 P2 h1 h2 => hpost M2 (F1.tr F2) P2.pre (fun z => ?_) h2)
      rw [← List.append_assoc]
      exact h1 z
end SU
