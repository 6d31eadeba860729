/-! ===== the two parsers, step by step: conditions ===== -/
def wA (w : Nat) : List (Nat × Nat) := if w = 0 then [] else [(9, 0)]
def wU (w : Nat) : List Bool := if w = 0 then [] else [true]
section AN
variable {t : Nat → Nat} {n o p q d L0 : Nat}
theorem wA_len {w : Nat} (hw : w = 0 ∨ w = 1) : (wA w).length ≤ 1 := by
  rcases hw with r | r <;> subst r <;> decide
theorem c_anyEnd {w : Nat} {CC : List Int32} {M : am_I} {N : am_N} {rc : Nat → Int32 → am_I → am_N → (Int32 → am_I → am_N → Prop) → Prop} {post : Int32 → am_I → am_N → Prop} (hw : w = 0 ∨ w = 1) (S : CSt t n p CC M) (hl : CC.length + (wA w).length ≤ 548) (h : ∀ M1, FrP1 M M1 → CSt t n p (CC ++ (wA w).map enc) M1 → post 1 M1 N) : w_X7_readAnyO_p110 rc post (nI w) 1 M N := by
  unfold w_X7_readAnyO_p110
  rcases hw with r | r <;> subst r
  · refine ⟨fun _ => ⟨Or.inr rfl, h M FrP1.rf ?_⟩, fun z => absurd rfl z⟩
    rw [show (wA 0).map enc = [] from rfl, List.append_nil]; exact S
  · exact ⟨fun z => absurd z (by decide), fun _ => c_emit S hl (fun M1 F S1 => ⟨Or.inr rfl, h M1 F S1⟩)⟩
theorem c_anyOut {j : Nat} {l1 l2 l4 : Int32} {M : am_I} {N : am_N} {rc : Nat → Int32 → am_I → am_N → (Int32 → am_I → am_N → Prop) → Prop} {post : Int32 → am_I → am_N → Prop} (S : CFl t n p M) (h : ∀ M1, FrP1 M M1 → CFl t n p M1 → post 0 M1 N) : w_X7_readAnyO_p11 rc post (j + 1) l1 l2 0 l4 M N := by
  rw [w_X7_readAnyO_p11_s]
  unfold w_X7_readAnyO_p11_b
  have : w_X7_readAnyO_p110 rc post l2 0 M N := by
    unfold w_X7_readAnyO_p110
    exact ⟨fun _ => ⟨Or.inl rfl, h M FrP1.rf S⟩, fun _ => c_emitF S (fun M1 F S1 => ⟨Or.inl rfl, h M1 F S1⟩)⟩
  exact ⟨fun _ => this, fun _ => ⟨fun _ => this, fun z => absurd rfl z⟩⟩
theorem r_allEnd {L i : Nat} {SS : List (Nat × Nat)} {M : am_I} {N : am_N} {K : Int32 → am_I → am_N → Prop} (S : RSt t n p o SS M) (hk : TK t n p) (h7 : ¬ tokV t n p = nI 7) (h : ∀ M1, FrQ M M1 → RSt t n p o SS M1 → K 1 M1 N) : w_X12_allO_p9 (rcM L) K (i + 1) M N := by
  rw [w_X12_allO_p9_s]
  unfold w_X12_allO_p9_b
  exact q_takes (k := 7) S hk (by decide) (by decide) (fun z => absurd z h7) (fun _ M1 F1 S1 _ => ⟨fun _ => h M1 (FrQ.ofA F1) S1, fun z => absurd rfl z⟩)
theorem r_allGo {L i : Nat} {SS : List (Nat × Nat)} {M : am_I} {N : am_N} {K : Int32 → am_I → am_N → Prop} (S : RSt t n p o SS M) (hk : TK t n p) (e : tokV t n p = nI 7) (h : ∀ M1, FrQ M M1 → RSt t n (nxT t n p) o SS M1 → rcM L 2 M1 N (fun zr1 zM2 zN3 => ((¬ zr1 = 0 → w_X12_puts (nI 10) 0 zM2 zN3 (fun zM4 zN5 => w_X12_allO_p9 (rcM L) K i zM4 zN5)) ∧ (zr1 = 0 → K 0 zM2 zN3)))) : w_X12_allO_p9 (rcM L) K (i + 1) M N := by
  rw [w_X12_allO_p9_s]
  unfold w_X12_allO_p9_b
  exact q_takes (k := 7) S hk (by decide) (by decide) (fun _ _ M1 F1 S1 => ⟨fun z => absurd z (by decide), fun _ => h M1 (FrQ.ofA F1) S1⟩) (fun z => absurd e z)
theorem r_anyEnd {rc : Nat → am_I → am_N → (Int32 → am_I → am_N → Prop) → Prop} {j : Nat} {SS : List (Nat × Nat)} {M : am_I} {N : am_N} {post : Int32 → am_I → am_N → Prop} (S : RSt t n p o SS M) (hk : TK t n p) (h6 : ¬ tokV t n p = nI 6) (h : ∀ M1, FrQ M M1 → RSt t n p o SS M1 → post 1 M1 N) : w_X12_anyO_p9 rc post (j + 1) M N := by
  rw [w_X12_anyO_p9_s]
  unfold w_X12_anyO_p9_b
  exact q_takes (k := 6) S hk (by decide) (by decide) (fun z => absurd z h6) (fun _ M1 F1 S1 _ => ⟨fun _ => h M1 (FrQ.ofA F1) S1, fun z => absurd rfl z⟩)
theorem r_anyGo {rc : Nat → am_I → am_N → (Int32 → am_I → am_N → Prop) → Prop} {j : Nat} {SS : List (Nat × Nat)} {M : am_I} {N : am_N} {post : Int32 → am_I → am_N → Prop} (S : RSt t n p o SS M) (hk : TK t n p) (e : tokV t n p = nI 6) (h : ∀ M1, FrQ M M1 → RSt t n (nxT t n p) o SS M1 → rc 1 M1 N (fun zr1 zM2 zN3 => ((¬ zr1 = 0 → w_X12_puts (nI 9) 0 zM2 zN3 (fun zM4 zN5 => w_X12_anyO_p9 rc post j zM4 zN5)) ∧ (zr1 = 0 → post 0 zM2 zN3)))) : w_X12_anyO_p9 rc post (j + 1) M N := by
  rw [w_X12_anyO_p9_s]
  unfold w_X12_anyO_p9_b
  exact q_takes (k := 6) S hk (by decide) (by decide) (fun _ _ M1 F1 S1 => ⟨fun z => absurd z (by decide), fun _ => h M1 (FrQ.ofA F1) S1⟩) (fun z => absurd e z)
theorem c_anyStep {L j l4 w : Nat} {CC : List Int32} {M : am_I} {N : am_N} {post : Int32 → am_I → am_N → Prop} (hn : n ≤ 500) (S : CSt t n p CC M) (hk : TK t n p) (h4 : l4 < 500 ∨ p = n) (hm : tokV t n p = nI 7 → p < n → w_X7_readAnyO_p82 (rcR L) post (w_X7_readAnyO_p11 (rcR L) post j) (nI o) (nI w) (nI l4) 1 (am_u M (0, 0, 7) 6 (M (0, 0, 7) 6 + 1)) N) (ha : tokV t n p = nI 6 → p < n → w_X7_readAnyO_p55 (rcR L) post (w_X7_readAnyO_p11 (rcR L) post j) (nI o) (nI w) (nI l4) 0 M N) (he : ¬ tokV t n p = nI 7 → ¬ tokV t n p = nI 6 → w_X7_readAnyO_p110 (rcR L) post (nI w) 1 M N) : w_X7_readAnyO_p11 (rcR L) post (j + 1) (nI o) (nI w) 1 (nI l4) M N := by
  rw [w_X7_readAnyO_p11_s]
  unfold w_X7_readAnyO_p11_b
  refine ⟨fun z => ?_, fun z => ⟨fun w => absurd w (by decide), fun _ => ?_⟩⟩
  · rcases h4 with h4 | h4
    · exact absurd z (nI_ge (b := 500) h4 (by omega))
    · have : tokV t n p = 0 := by
        unfold tokV
        rw [if_pos (by omega)]
      rw [this] at he
      exact he (by decide) (by decide)
  · refine c_here S.k hn S.c hk ⟨fun z7 => ?_, fun z7 => c_here S.k hn S.c hk ⟨fun z6 => he z7 z6, fun z6 => ?_⟩⟩
    · unfold w_X7_readAnyO_p41
      refine c_here S.k hn S.c hk ⟨fun z => absurd z7 z, fun _ => ?_⟩
      unfold w_X7_readAnyO_p55
      exact ⟨fun _ => hm z7 (tk_pos2 z7 (by decide) (by decide)), fun z => absurd z (by decide)⟩
    · unfold w_X7_readAnyO_p41
      exact c_here S.k hn S.c hk ⟨fun _ => ha z6 (tk_pos2 z6 (by decide) (by decide)), fun z => absurd z z7⟩
theorem c_waitA {L w : Nat} {CC : List Int32} {M : am_I} {N : am_N} {l1 l4 : Int32} {zk : Int32 → Int32 → Int32 → Int32 → am_I → am_N → Prop} {post : Int32 → am_I → am_N → Prop} (hw : w = 0 ∨ w = 1) (S : CSt t n p CC M) (hk : TK t n p) (hp : p < n) (hl : CC.length + (wA w).length ≤ 548) (h : ∀ M1, FrP1 M M1 → CSt t n (nxT t n p) (CC ++ (wA w).map enc) M1 → w_X7_readAnyO_p82 (rcR L) post zk l1 (nI w) l4 0 M1 N) : w_X7_readAnyO_p55 (rcR L) post zk l1 (nI w) l4 0 M N := by
  unfold w_X7_readAnyO_p55
  obtain ⟨F1, S1⟩ := S.adv hk hp
  refine ⟨fun z => absurd rfl z, fun _ => ?_⟩
  rcases hw with r | r <;> subst r
  · refine ⟨fun _ => h _ F1 ?_, fun z => absurd rfl z⟩
    rw [show (wA 0).map enc = [] from rfl, List.append_nil]; exact S1
  · exact ⟨fun z => absurd z (by decide), fun _ => c_emit S1 hl (fun M1 F S2 => h M1 (F1.tr F) S2)⟩
theorem ty_or {c : Nat} {τ : List Bool} (hc : τ.length + 1 ≤ c) : tyR c [(9, 0)] (true :: true :: τ) = some (true :: τ) := tyR_one rfl hc
theorem ty_and {c : Nat} {τ : List Bool} (hc : τ.length + 1 ≤ c) : tyR c [(10, 0)] (true :: true :: τ) = some (true :: τ) := tyR_one rfl hc
def AR (t : Nat → Nat) (n o d L0 w p : Nat) (ok : Bool) (q : Nat) (E : List (Nat × Nat)) : Prop := (TK t n q) ∧ (cs t p ≤ cs t q) ∧ (ok = true → E.length + cs t p ≤ cs t q + (wA w).length) ∧ (ok = true → ∀ (τ : List Bool) (c : Nat), τ.length + (d + 2) ≤ c → tyR c E (wU w ++ true :: τ) = some (true :: τ)) ∧ (∀ L, L0 ≤ L → ∀ (CC : List Int32) (M : am_I) (N : am_N) (post : Int32 → am_I → am_N → Prop) (j l4 : Nat), CSt t n p CC M → CC.length + (wA w).length + (cs t n - cs t p) ≤ 548 → cs t n - cs t p + 2 ≤ j → l4 + (cs t n - cs t p) ≤ 500 → (∀ M1, FrP1 M M1 → (ok = true → CSt t n q (CC ++ E.map enc) M1) → CFl t n q M1 → post (bI ok) M1 N) → w_X7_readAnyO_p11 (rcR L) post j (nI o) (nI w) 1 (nI l4) M N) ∧ (∀ L, L0 ≤ L → ∀ (SS : List (Nat × Nat)) (M : am_I) (N : am_N) (post K : Int32 → am_I → am_N → Prop) (i j : Nat), RSt t n p o SS M → SS.length + (wA w).length + (cs t n - cs t p) ≤ 6300 → cs t n - cs t p < i → cs t n - cs t p < j → (∀ M N, post 0 M N → K 0 M N) → (∀ p1 SS1 M1, RSt t n p1 o SS1 M1 → SS1.length + (wA w).length ≤ 6300 → (∀ M2, FrQ M1 M2 → RSt t n p1 o (SS1 ++ wA w) M2 → w_X12_anyO_p9 (rcM (L + 1)) post j M2 N) → K 1 M1 N) → (∀ M1, FrQ M M1 → RPf SS M1 → (ok = true → RSt t n q o (SS ++ E) M1) → (ok = false → M1 (3, 0, 0) 49 = nI q) → post (bI ok) M1 N) → w_X12_allO_p9 (rcM L) K i M N)
theorem AR.tk {t : Nat → Nat} {n o d L0 w p : Nat} {ok : Bool} {q : Nat} {E : List (Nat × Nat)} (h : AR t n o d L0 w p ok q E) : TK t n q := h.1
theorem AR.mo {t : Nat → Nat} {n o d L0 w p : Nat} {ok : Bool} {q : Nat} {E : List (Nat × Nat)} (h : AR t n o d L0 w p ok q E) : cs t p ≤ cs t q := h.2.1
theorem AR.ln {t : Nat → Nat} {n o d L0 w p : Nat} {ok : Bool} {q : Nat} {E : List (Nat × Nat)} (h : AR t n o d L0 w p ok q E) : ok = true → E.length + cs t p ≤ cs t q + (wA w).length := h.2.2.1
theorem AR.ty {t : Nat → Nat} {n o d L0 w p : Nat} {ok : Bool} {q : Nat} {E : List (Nat × Nat)} (h : AR t n o d L0 w p ok q E) : ok = true → ∀ (τ : List Bool) (c : Nat), τ.length + (d + 2) ≤ c → tyR c E (wU w ++ true :: τ) = some (true :: τ) := h.2.2.2.1
theorem AR.cl {t : Nat → Nat} {n o d L0 w p : Nat} {ok : Bool} {q : Nat} {E : List (Nat × Nat)} (h : AR t n o d L0 w p ok q E) : ∀ L, L0 ≤ L → ∀ (CC : List Int32) (M : am_I) (N : am_N) (post : Int32 → am_I → am_N → Prop) (j l4 : Nat), CSt t n p CC M → CC.length + (wA w).length + (cs t n - cs t p) ≤ 548 → cs t n - cs t p + 2 ≤ j → l4 + (cs t n - cs t p) ≤ 500 → (∀ M1, FrP1 M M1 → (ok = true → CSt t n q (CC ++ E.map enc) M1) → CFl t n q M1 → post (bI ok) M1 N) → w_X7_readAnyO_p11 (rcR L) post j (nI o) (nI w) 1 (nI l4) M N := h.2.2.2.2.1
theorem AR.rf {t : Nat → Nat} {n o d L0 w p : Nat} {ok : Bool} {q : Nat} {E : List (Nat × Nat)} (h : AR t n o d L0 w p ok q E) : ∀ L, L0 ≤ L → ∀ (SS : List (Nat × Nat)) (M : am_I) (N : am_N) (post K : Int32 → am_I → am_N → Prop) (i j : Nat), RSt t n p o SS M → SS.length + (wA w).length + (cs t n - cs t p) ≤ 6300 → cs t n - cs t p < i → cs t n - cs t p < j → (∀ M N, post 0 M N → K 0 M N) → (∀ p1 SS1 M1, RSt t n p1 o SS1 M1 → SS1.length + (wA w).length ≤ 6300 → (∀ M2, FrQ M1 M2 → RSt t n p1 o (SS1 ++ wA w) M2 → w_X12_anyO_p9 (rcM (L + 1)) post j M2 N) → K 1 M1 N) → (∀ M1, FrQ M M1 → RPf SS M1 → (ok = true → RSt t n q o (SS ++ E) M1) → (ok = false → M1 (3, 0, 0) 49 = nI q) → post (bI ok) M1 N) → w_X12_allO_p9 (rcM L) K i M N := h.2.2.2.2.2
theorem any_rest (hn : n ≤ 500) (hA : LKA t n o 1 2 true d L0) : ∀ r p w, TK t n p → cs t n - cs t p < r → (w = 0 ∨ w = 1) → ∃ ok q E, AR t n o d L0 w p ok q E := by
  intro r
  induction r with
  | zero => intro p w _ h _; omega
  | succ r ih =>
    intro p w hk hr hw
    have hpn := cs_mono (t := t) hk.1
    have hwl := wA_len hw
    by_cases e : tokV t n p = nI 7
    · have hp : p < n := tk_pos2 e (by omega) (by omega)
      obtain ⟨_, k1, c1, _⟩ := nx_sp hk hp
      have hqn := cs_mono (t := t) k1.1
      obtain ⟨ok1, q1, E1, A⟩ := hA _ k1
      have hq1 := cs_mono (t := t) A.tk.1
      have amo := A.mo
      have n6 : ¬ tokV t n p = nI 6 := fun z => absurd (e.symm.trans z) (by decide)
      cases ok1 with
      | false =>
        refine ⟨false, q1, [], A.tk, by omega, fun z => (nomatch z), fun z => (nomatch z), ?_, ?_⟩
        · intro L hL CC M N post j l4 S hroom hj hl4 hpost
          obtain ⟨j', rfl⟩ : ∃ j', j = j' + 2 := ⟨j - 2, by omega⟩
          refine c_anyStep hn S hk (by omega) (fun _ _ => ?_) (fun z => absurd z n6) (fun z => absurd e z)
          obtain ⟨F1, S1⟩ := S.adv hk hp
          unfold w_X7_readAnyO_p82
          refine A.cl L hL CC _ N _ S1 (by omega) (fun M1 F2 _ C => ⟨fun z => absurd z (by decide), fun _ => ?_⟩)
          refine c_emitF C (fun M2 F3 C2 => ?_)
          exact c_anyOut C2 (fun M3 F4 C3 => hpost M3 ((F1.tr F2).tr (F3.tr F4)) (fun z => (nomatch z)) C3)
        · intro L hL SS M N post K i j S hroom hi hj hK0 hK1 hpost
          obtain ⟨i', rfl⟩ : ∃ i', i = i' + 1 := ⟨i - 1, by omega⟩
          refine r_allGo S hk e (fun M1 F1 S1 => ?_)
          exact A.rf L hL SS M1 N _ S1 (by omega) (fun M2 F2 P2 _ h2 => ⟨fun z => absurd rfl z, fun _ => hK0 _ _ (hpost M2 (F1.tr F2) P2 (fun z => (nomatch z)) (fun _ => h2 rfl))⟩)
      | true =>
        obtain ⟨ok, q, E2, R⟩ := ih q1 w A.tk (by omega) hw
        have aln := A.ln rfl
        have rmo := R.mo
        refine ⟨ok, q, E1 ++ (10, 0) :: E2, R.tk, by omega, fun z => ?_, fun z τ c hc => ?_, ?_, ?_⟩
        · have := R.ln z
          rw [List.length_append, List.length_cons]
          omega
        · have lw : (wU w ++ true :: τ).length + d ≤ c := by
            rw [List.length_append, List.length_cons]
            rcases hw with r | r <;> subst r
            · show 0 + (τ.length + 1) + d ≤ c; omega
            · show 1 + (τ.length + 1) + d ≤ c; omega
          rw [tyR_app E1 _ _ _ (A.ty rfl _ c lw)]
          have h1 : tyR c [(10, 0)] (true :: (wU w ++ true :: τ)) = some (wU w ++ true :: τ) := by
            rcases hw with r | r <;> subst r
            · exact ty_and (by omega)
            · exact ty_and (τ := true :: τ) (by rw [List.length_cons]; omega)
          show tyR c ([(10, 0)] ++ E2) _ = _
          rw [tyR_app [(10, 0)] E2 _ _ h1]
          exact R.ty z τ c hc
        · intro L hL CC M N post j l4 S hroom hj hl4 hpost
          obtain ⟨j', rfl⟩ : ∃ j', j = j' + 1 := ⟨j - 1, by omega⟩
          refine c_anyStep hn S hk (by omega) (fun _ _ => ?_) (fun z => absurd z n6) (fun z => absurd e z)
          obtain ⟨F1, S1⟩ := S.adv hk hp
          unfold w_X7_readAnyO_p82
          refine A.cl L hL CC _ N _ S1 (by omega) (fun M1 F2 S2 _ => ⟨fun z => absurd z (by decide), fun _ => ?_⟩)
          have S2' := S2 rfl
          have ll : (CC ++ E1.map enc).length = CC.length + E1.length := by rw [List.length_append, List.length_map]
          refine c_emit S2' (by omega) (fun M2 F3 S3 => ?_)
          rw [nI_1]
          have ll3 : (CC ++ E1.map enc ++ [-7]).length = CC.length + E1.length + 1 := by rw [List.length_append, ll]; rfl
          refine R.cl L hL _ M2 N post j' (l4 + 1) S3 (by omega) (by omega) (by omega) (fun M3 F4 h1 h2 => hpost M3 ((F1.tr F2).tr (F3.tr F4)) (fun z => ?_) h2)
          have e1 : CC ++ (E1 ++ (10, 0) :: E2).map enc = CC ++ E1.map enc ++ [-7] ++ E2.map enc := by
            have e2 : enc (10, 0) = -7 := rfl
            rw [List.map_append, List.map_cons, e2, List.append_assoc, List.append_assoc]; rfl
          rw [e1]
          exact h1 z
        · intro L hL SS M N post K i j S hroom hi hj hK0 hK1 hpost
          obtain ⟨i', rfl⟩ : ∃ i', i = i' + 1 := ⟨i - 1, by omega⟩
          refine r_allGo S hk e (fun M1 F1 S1 => ?_)
          refine A.rf L hL SS M1 N _ S1 (by omega) (fun M2 F2 P2 S2 _ => ⟨fun _ => ?_, fun z => absurd z (by decide)⟩)
          have S2' := S2 rfl
          have ll : (SS ++ E1).length = SS.length + E1.length := List.length_append
          refine q_puts (w := 10) (x := 0) S2' (by omega) (fun M3 F3 S3 => ?_)
          have ll3 : (SS ++ E1 ++ [(10, 0)]).length = SS.length + E1.length + 1 := by rw [List.length_append, ll]; rfl
          refine R.rf L hL _ M3 N post K i' j S3 (by omega) (by omega) (by omega) hK0 hK1 (fun M4 F4 P4 h1 h2 => hpost M4 ((F1.tr F2).tr (F3.tr F4)) P4.pre.pre (fun z => ?_) h2)
          have e1 : SS ++ (E1 ++ (10, 0) :: E2) = SS ++ E1 ++ [(10, 0)] ++ E2 := by
            rw [List.append_assoc, List.append_assoc]; rfl
          rw [e1]
          exact h1 z
    · by_cases e6 : tokV t n p = nI 6
      · have hp : p < n := tk_pos2 e6 (by omega) (by omega)
        obtain ⟨_, k1, c1, _⟩ := nx_sp hk hp
        have hqn := cs_mono (t := t) k1.1
        obtain ⟨ok1, q1, E1, A⟩ := hA _ k1
        have hq1 := cs_mono (t := t) A.tk.1
        have amo := A.mo
        have wsl : (wA 1).length = 1 := rfl
        cases ok1 with
        | false =>
          refine ⟨false, q1, [], A.tk, by omega, fun z => (nomatch z), fun z => (nomatch z), ?_, ?_⟩
          · intro L hL CC M N post j l4 S hroom hj hl4 hpost
            obtain ⟨j', rfl⟩ : ∃ j', j = j' + 2 := ⟨j - 2, by omega⟩
            refine c_anyStep hn S hk (by omega) (fun z => absurd z e) (fun _ _ => ?_) (fun _ z => absurd e6 z)
            refine c_waitA hw S hk hp (by omega) (fun M0 F0 S0 => ?_)
            have ll : (CC ++ (wA w).map enc).length = CC.length + (wA w).length := by rw [List.length_append, List.length_map]
            unfold w_X7_readAnyO_p82
            refine A.cl L hL _ _ N _ S0 (by omega) (fun M1 F2 _ C => ⟨fun _ => ?_, fun z => absurd rfl z⟩)
            exact c_anyOut C (fun M3 F4 C3 => hpost M3 (F0.tr (F2.tr F4)) (fun z => (nomatch z)) C3)
          · intro L hL SS M N post K i j S hroom hi hj hK0 hK1 hpost
            obtain ⟨i', rfl⟩ : ∃ i', i = i' + 1 := ⟨i - 1, by omega⟩
            obtain ⟨j', rfl⟩ : ∃ j', j = j' + 1 := ⟨j - 1, by omega⟩
            refine r_allEnd S hk e (fun M1 F1 S1 => hK1 p SS M1 S1 (by omega) (fun M2 F2 S2 => ?_))
            refine r_anyGo S2 hk e6 (fun M3 F3 S3 => ?_)
            have ll : (SS ++ wA w).length = SS.length + (wA w).length := List.length_append
            rw [rcM_1]
            unfold w_X12_allO
            exact A.rf L hL _ M3 N _ S3 (by omega) (fun M4 F4 P4 _ h2 => ⟨fun z => absurd rfl z, fun _ => ⟨fun z => absurd rfl z, fun _ => hpost M4 ((F1.tr F2).tr (F3.tr F4)) P4.pre (fun z => (nomatch z)) (fun _ => h2 rfl)⟩⟩)
        | true =>
          obtain ⟨ok, q, E2, R⟩ := ih q1 1 A.tk (by omega) (Or.inr rfl)
          have aln := A.ln rfl
          have rmo := R.mo
          refine ⟨ok, q, wA w ++ (E1 ++ E2), R.tk, by omega, fun z => ?_, fun z τ c hc => ?_, ?_, ?_⟩
          · have := R.ln z
            rw [List.length_append, List.length_append]
            omega
          · have h1 : tyR c (wA w) (wU w ++ true :: τ) = some (true :: τ) := by
              rcases hw with r | r <;> subst r
              · rfl
              · exact ty_or (by omega)
            rw [tyR_app (wA w) _ _ _ h1, tyR_app E1 _ _ _ (A.ty rfl _ c (by rw [List.length_cons]; omega))]
            exact R.ty z τ c hc
          · intro L hL CC M N post j l4 S hroom hj hl4 hpost
            obtain ⟨j', rfl⟩ : ∃ j', j = j' + 1 := ⟨j - 1, by omega⟩
            refine c_anyStep hn S hk (by omega) (fun z => absurd z e) (fun _ _ => ?_) (fun _ z => absurd e6 z)
            refine c_waitA hw S hk hp (by omega) (fun M0 F0 S0 => ?_)
            have ll : (CC ++ (wA w).map enc).length = CC.length + (wA w).length := by rw [List.length_append, List.length_map]
            unfold w_X7_readAnyO_p82
            refine A.cl L hL _ _ N _ S0 (by omega) (fun M1 F2 S2 _ => ⟨fun _ => ?_, fun z => absurd rfl z⟩)
            have S2' := S2 rfl
            rw [nI_1]
            have ll3 : (CC ++ (wA w).map enc ++ E1.map enc).length = CC.length + (wA w).length + E1.length := by rw [List.length_append, ll, List.length_map]
            refine R.cl L hL _ M1 N post j' (l4 + 1) S2' (by omega) (by omega) (by omega) (fun M3 F4 h1 h2 => hpost M3 (F0.tr (F2.tr F4)) (fun z => ?_) h2)
            have e1 : CC ++ (wA w ++ (E1 ++ E2)).map enc = CC ++ (wA w).map enc ++ E1.map enc ++ E2.map enc := by
              rw [List.map_append, List.map_append, List.append_assoc, List.append_assoc]
            rw [e1]
            exact h1 z
          · intro L hL SS M N post K i j S hroom hi hj hK0 hK1 hpost
            obtain ⟨i', rfl⟩ : ∃ i', i = i' + 1 := ⟨i - 1, by omega⟩
            obtain ⟨j', rfl⟩ : ∃ j', j = j' + 1 := ⟨j - 1, by omega⟩
            refine r_allEnd S hk e (fun M1 F1 S1 => hK1 p SS M1 S1 (by omega) (fun M2 F2 S2 => ?_))
            refine r_anyGo S2 hk e6 (fun M3 F3 S3 => ?_)
            have ll : (SS ++ wA w).length = SS.length + (wA w).length := List.length_append
            rw [rcM_1]
            unfold w_X12_allO
            refine A.rf L hL _ M3 N _ S3 (by omega) (fun M4 F4 P4 S4 _ => ⟨fun _ => ⟨i', ?_⟩, fun z => absurd z (by decide)⟩)
            have ll3 : (SS ++ wA w ++ E1).length = SS.length + (wA w).length + E1.length := by rw [List.length_append, ll]
            refine R.rf L hL _ M4 N post _ i' j' (S4 rfl) (by omega) (by omega) (by omega) (fun M5 N5 h5 => ⟨fun z => absurd rfl z, fun _ => h5⟩) (fun p1 SS1 M5 S5 hr5 h5 => ⟨fun _ => q_puts (w := 9) (x := 0) S5 (by omega) (fun M6 F6 S6 => h5 M6 F6 S6), fun z => absurd z (by decide)⟩) (fun M5 F5 P5 h1 h2 => hpost M5 (((F1.tr F2).tr (F3.tr F4)).tr F5) P5.pre.pre (fun z => ?_) h2)
            have e1 : SS ++ (wA w ++ (E1 ++ E2)) = SS ++ wA w ++ E1 ++ E2 := by
              rw [List.append_assoc, List.append_assoc]
            rw [e1]
            exact h1 z
      · refine ⟨true, p, wA w, hk, Nat.le_refl _, fun _ => by omega, fun _ τ c hc => ?_, ?_, ?_⟩
        · rcases hw with r | r <;> subst r
          · rfl
          · exact ty_or (by omega)
        · intro L hL CC M N post j l4 S hroom hj hl4 hpost
          obtain ⟨j', rfl⟩ : ∃ j', j = j' + 1 := ⟨j - 1, by omega⟩
          have ll : (CC ++ (wA w).map enc).length = CC.length + (wA w).length := by rw [List.length_append, List.length_map]
          have fin := c_anyEnd (rc := rcR L) (post := post) (N := N) hw S (by omega) (fun M1 F S1 => hpost M1 F (fun _ => S1) (S1.fl (by omega)))
          by_cases h5 : l4 < 500
          · exact c_anyStep hn S hk (Or.inl h5) (fun z => absurd z e) (fun z => absurd z e6) (fun _ _ => fin)
          · rw [w_X7_readAnyO_p11_s]
            unfold w_X7_readAnyO_p11_b
            exact ⟨fun _ => fin, fun z => absurd (nI_le (a := 500) (by omega) (by omega)) z⟩
        · intro L hL SS M N post K i j S hroom hi hj hK0 hK1 hpost
          obtain ⟨i', rfl⟩ : ∃ i', i = i' + 1 := ⟨i - 1, by omega⟩
          obtain ⟨j', rfl⟩ : ∃ j', j = j' + 1 := ⟨j - 1, by omega⟩
          refine r_allEnd S hk e (fun M1 F1 S1 => hK1 p SS M1 S1 (by omega) (fun M2 F2 S2 => ?_))
          exact r_anyEnd S2 hk e6 (fun M3 F3 S3 => hpost M3 ((F1.tr F2).tr F3) S3.l.pre (fun _ => S3) (fun z => (nomatch z)))
theorem LK_any (hn : n ≤ 500) (hA : LKA t n o 1 2 true d L0) : LKA t n o 0 0 true (d + 2) (L0 + 2) := by
  intro p hk
  obtain ⟨ok1, q1, E1, A⟩ := hA p hk
  have hq1 := cs_mono (t := t) A.tk.1
  have amo := A.mo
  have c5 := (cs_501 (t := t) hn (Nat.le_refl n)).1
  cases ok1 with
  | false =>
    refine ⟨false, q1, [], A.tk, amo, fun z => (nomatch z), fun z => (nomatch z), ?_, ?_⟩
    · intro L hL CC M N post S hroom hpost
      obtain ⟨L', rfl⟩ : ∃ L', L = L' + 1 := ⟨L - 1, by omega⟩
      rw [rcR_0]
      unfold w_X7_readAnyO
      exact A.cl L' (by omega) CC M N _ S hroom (fun M1 F1 _ C => ⟨1, c_anyOut C (fun M2 F2 C2 => hpost M2 (F1.tr F2) (fun z => (nomatch z)) C2)⟩)
    · intro L hL SS M N post S hroom hpost
      obtain ⟨L', rfl⟩ : ∃ L', L = L' + 2 := ⟨L - 2, by omega⟩
      rw [rcM_0]
      unfold w_X12_anyO
      rw [rcM_1]
      unfold w_X12_allO
      exact A.rf L' (by omega) SS M N _ S hroom (fun M1 F1 P1 _ h2 => ⟨fun z => absurd rfl z, fun _ => ⟨fun z => absurd rfl z, fun _ => hpost M1 F1 P1 (fun z => (nomatch z)) h2⟩⟩)
  | true =>
    obtain ⟨ok, q, E2, R⟩ := any_rest hn hA _ q1 0 A.tk (Nat.lt_succ_self _) (Or.inl rfl)
    have aln := A.ln rfl
    have rmo := R.mo
    have w0 : (wA 0).length = 0 := rfl
    refine ⟨ok, q, E1 ++ E2, R.tk, by omega, fun z => ?_, fun z τ c hc => ?_, ?_, ?_⟩
    · have := R.ln z
      rw [List.length_append]; omega
    · rw [tyR_app E1 _ _ _ (A.ty rfl τ c (by omega))]
      exact R.ty z τ c hc
    · intro L hL CC M N post S hroom hpost
      obtain ⟨L', rfl⟩ : ∃ L', L = L' + 1 := ⟨L - 1, by omega⟩
      rw [rcR_0]
      unfold w_X7_readAnyO
      have ll : (CC ++ E1.map enc).length = CC.length + E1.length := by rw [List.length_append, List.length_map]
      refine A.cl L' (by omega) CC M N _ S hroom (fun M1 F1 S1 _ => ⟨cs t n - cs t q1 + 2, ?_⟩)
      refine R.cl L' (by omega) _ M1 N post _ 0 (S1 rfl) (by omega) (Nat.le_refl _) (by omega) (fun M2 F2 h1 h2 => hpost M2 (F1.tr F2) (fun z => ?_) h2)
      rw [List.map_append, ← List.append_assoc]
      exact h1 z
    · intro L hL SS M N post S hroom hpost
      obtain ⟨L', rfl⟩ : ∃ L', L = L' + 2 := ⟨L - 2, by omega⟩
      rw [rcM_0]
      unfold w_X12_anyO
      rw [rcM_1]
      unfold w_X12_allO
      have ll : (SS ++ E1).length = SS.length + E1.length := List.length_append
      refine A.rf L' (by omega) SS M N _ S hroom (fun M1 F1 P1 S1 _ => ⟨fun _ => ⟨cs t n - cs t q1 + 1, ?_⟩, fun z => absurd z (by decide)⟩)
      refine R.rf L' (by omega) _ M1 N post _ _ (cs t n - cs t q1 + 1) (S1 rfl) (by omega) (Nat.lt_succ_self _) (Nat.lt_succ_self _) (fun M5 N5 h5 => ⟨fun z => absurd rfl z, fun _ => h5⟩) (fun p1 SS1 M5 S5 hr5 h5 => ⟨fun _ => ⟨_, h5 M5 FrQ.rf (by rw [show wA 0 = [] from rfl, List.append_nil]; exact S5)⟩, fun z => absurd z (by decide)⟩) (fun M2 F2 P2 h1 h2 => hpost M2 (F1.tr F2) P2.pre (fun z => ?_) h2)
      rw [← List.append_assoc]
      exact h1 z
end AN
