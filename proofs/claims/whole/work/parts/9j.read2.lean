/-! ===== whole texts ===== -/
abbrev SX : Type := Nat × List (Nat × Nat) × List (Nat × Nat)
def RPg (PP : List (Nat × List (Nat × Nat) × List (Nat × Nat))) (r : Nat) (SS : List (Nat × Nat)) (M : am_I) : Prop := ∀ k, k < PP.length → ∃ P0 P1, SS = P0 ++ (stS (PP.getD k (0, [], [])) ++ P1) ∧ M (3, 0, 35) (24 * r + k) = nI (PP.getD k (0, [], [])).1 ∧ M (3, 0, 36) (24 * r + k) = nI P0.length ∧ M (3, 0, 37) (24 * r + k) = nI (P0.length + (PP.getD k (0, [], [])).2.1.length) ∧ M (3, 0, 38) (24 * r + k) = nI (P0.length + (stS (PP.getD k (0, [], []))).length)
def FrW (r : Nat) (M M1 : am_I) : Prop := (∀ c : am_C, c ≠ (3, 0, 0) → c ≠ (3, 0, 34) → c ≠ (3, 0, 35) → c ≠ (3, 0, 36) → c ≠ (3, 0, 37) → c ≠ (3, 0, 38) → c ≠ (3, 0, 39) → c ≠ (3, 0, 40) → M1 c = M c) ∧ (∀ j, j ≠ 46 → j ≠ 49 → j ≠ 50 → j ≠ 63 → j ≠ 64 → M1 (3, 0, 0) j = M (3, 0, 0) j) ∧ (∀ j, j < r → M1 (3, 0, 34) j = M (3, 0, 34) j) ∧ ∀ j, j < 24 * r → M1 (3, 0, 35) j = M (3, 0, 35) j ∧ M1 (3, 0, 36) j = M (3, 0, 36) j ∧ M1 (3, 0, 37) j = M (3, 0, 37) j ∧ M1 (3, 0, 38) j = M (3, 0, 38) j
section RX
variable {t : Nat → Nat} {n p q k o r : Nat} {M M1 M2 : am_I} {N : am_N} {CC : List Int32} {SS : List (Nat × Nat)} {PP : List (Nat × List (Nat × Nat) × List (Nat × Nat))}
theorem FrW.rf : FrW r M M := ⟨fun _ _ _ _ _ _ _ _ _ => rfl, fun _ _ _ _ _ _ => rfl, fun _ _ => rfl, fun _ _ => ⟨rfl, rfl, rfl, rfl⟩⟩
theorem FrW.tr (h1 : FrW r M M1) (h2 : FrW r M1 M2) : FrW r M M2 := ⟨fun c q1 q2 q3 q4 q5 q6 q7 q8 => (h2.1 c q1 q2 q3 q4 q5 q6 q7 q8).trans (h1.1 c q1 q2 q3 q4 q5 q6 q7 q8), fun j q1 q2 q3 q4 q5 => (h2.2.1 j q1 q2 q3 q4 q5).trans (h1.2.1 j q1 q2 q3 q4 q5), fun j q => (h2.2.2.1 j q).trans (h1.2.2.1 j q), fun j q => ⟨(h2.2.2.2 j q).1.trans (h1.2.2.2 j q).1, (h2.2.2.2 j q).2.1.trans (h1.2.2.2 j q).2.1, (h2.2.2.2 j q).2.2.1.trans (h1.2.2.2 j q).2.2.1, (h2.2.2.2 j q).2.2.2.trans (h1.2.2.2 j q).2.2.2⟩⟩
theorem FrW.ofV (h : FrV k M M1) (hk : 24 * r ≤ k) : FrW r M M1 := ⟨fun c q1 _ q3 q4 q5 q6 q7 q8 => h.1 c q1 q3 q4 q5 q6 q7 q8, h.2.1, fun j _ => by rw [h.1 (3, 0, 34) (by simp) (by simp) (by simp) (by simp) (by simp) (by simp) (by simp)], fun j q => h.2.2 j (by omega)⟩
theorem FrW.ofQ (h : FrQ M M1) : FrW r M M1 := FrW.ofV (k := 24 * r) (FrV.of h) (Nat.le_refl _)
theorem FrW.r34 {v : Int32} : FrW r M (am_u M (3, 0, 34) r v) := by
  refine ⟨fun c _ q2 _ _ _ _ _ _ => am_u_o _ _ _ q2, fun j _ _ _ _ _ => by rw [am_u_o _ _ _ (by simp)], fun j q => by rw [am_u_c, pk_un (by omega)], fun j _ => ?_⟩
  rw [am_u_o _ _ _ (show ((3, 0, 35) : am_C) ≠ (3, 0, 34) by simp), am_u_o _ _ _ (show ((3, 0, 36) : am_C) ≠ (3, 0, 34) by simp), am_u_o _ _ _ (show ((3, 0, 37) : am_C) ≠ (3, 0, 34) by simp), am_u_o _ _ _ (show ((3, 0, 38) : am_C) ≠ (3, 0, 34) by simp)]
  exact ⟨rfl, rfl, rfl, rfl⟩
theorem RSt.r34 {v : Int32} (S : RSt t n p o SS M) : RSt t n p o SS (am_u M (3, 0, 34) k v) := by
  have e0 : am_u M (3, 0, 34) k v (3, 0, 0) = M (3, 0, 0) := am_u_o _ _ _ (by simp)
  refine ⟨⟨by rw [e0]; exact S.r.s, S.r.b, fun i hi => by rw [am_u_o _ _ _ (by simp)]; exact S.r.v i hi⟩, by rw [e0]; exact S.a, by rw [e0]; exact S.d, by rw [e0]; exact S.z, S.l.cg (am_u_o _ _ _ (by simp)) (am_u_o _ _ _ (by simp))⟩
theorem RPg.rows {a : Nat} (h : RPg PP r SS M) (hl : PP.length ≤ a) (e : ∀ j, j < 24 * r + a → M1 (3, 0, 35) j = M (3, 0, 35) j ∧ M1 (3, 0, 36) j = M (3, 0, 36) j ∧ M1 (3, 0, 37) j = M (3, 0, 37) j ∧ M1 (3, 0, 38) j = M (3, 0, 38) j) : RPg PP r SS M1 := fun k hk => by
  obtain ⟨P0, P1, g1, g2, g3, g4, g5⟩ := h k hk
  obtain ⟨d1, d2, d3, d4⟩ := e (24 * r + k) (by omega)
  exact ⟨P0, P1, g1, d1.trans g2, d2.trans g3, d3.trans g4, d4.trans g5⟩
theorem RPg.snoc {x : Nat × List (Nat × Nat) × List (Nat × Nat)} (h : RPg PP r SS M) (e : ∀ j, j ≠ 24 * r + PP.length → M1 (3, 0, 35) j = M (3, 0, 35) j ∧ M1 (3, 0, 36) j = M (3, 0, 36) j ∧ M1 (3, 0, 37) j = M (3, 0, 37) j ∧ M1 (3, 0, 38) j = M (3, 0, 38) j) (d1 : M1 (3, 0, 35) (24 * r + PP.length) = nI x.1) (d2 : M1 (3, 0, 36) (24 * r + PP.length) = nI SS.length) (d3 : M1 (3, 0, 37) (24 * r + PP.length) = nI (SS.length + x.2.1.length)) (d4 : M1 (3, 0, 38) (24 * r + PP.length) = nI (SS.length + (stS x).length)) : RPg (PP ++ [x]) r (SS ++ stS x) M1 := fun k hk => by
  rw [List.length_append, List.length_singleton] at hk
  by_cases hkk : k = PP.length
  · subst hkk
    rw [gd_r]
    exact ⟨SS, [], by rw [List.append_nil], d1, d2, d3, d4⟩
  · rw [gd_l (by omega)]
    obtain ⟨P0, P1, g1, g2, g3, g4, g5⟩ := h k (by omega)
    obtain ⟨c1, c2, c3, c4⟩ := e (24 * r + k) (by omega)
    refine ⟨P0, P1 ++ stS x, ?_, c1.trans g2, c2.trans g3, c3.trans g4, c4.trans g5⟩
    conv => lhs; rw [g1]
    rw [List.append_assoc, List.append_assoc]
theorem tok_z (hk : TK t n p) (hp : p < n) : ¬ tokV t n p = 0 := by
  rcases tok_cases hk with ⟨h, _⟩ | ⟨_, _, s, v⟩ | ⟨_, _, _, v⟩ | ⟨_, _, _, v, b⟩ | ⟨_, v, _⟩
  · omega
  · rw [v]
    have h0 : t p ≠ 0 := fun w => by rw [w] at s; exact absurd s (by decide)
    exact nI_ne0 (by omega) (by have := (sg_b s).1; omega)
  · rw [v]
    rcases wordV_rng (wN t (enT t n p - p) p) with z | ⟨k, k1, k2, z⟩
    · rw [z]; decide
    · rw [z]; exact nI_ne0 (by omega) (by omega)
  · rw [v]; exact nI_ne0 (by omega) (by omega)
  · rw [v]; decide
theorem tok_n : tokV t n n = 0 := by unfold tokV; rw [if_pos (Nat.le_refl _)]
def rdV (ok : Bool) (q : Nat) : Int32 := if ok = true then -1 else nI q
def RDR (t : Nat → Nat) (n m p : Nat) (PP : List SX) (ok : Bool) (q : Nat) (QQ : List SX) : Prop := (TK t n q) ∧ (ok = true → QQ.length ≤ 24 ∧ (QQ.flatMap stS).length ≤ 500 ∧ (QQ.flatMap cdS).length ≤ 548 ∧ ∀ x, x ∈ QQ → okS x) ∧ (∀ (M : am_I) (N : am_N) (post : Int32 → am_I → am_N → Prop) (j : Nat), CSt t n p (PP.flatMap cdS) M → M (0, 0, 7) 8 = nI PP.length → m + 2 ≤ j → (∀ M1, FrP2 M M1 → (ok = true → CSt t n q (QQ.flatMap cdS) M1 ∧ M1 (0, 0, 7) 8 = nI QQ.length) → post (rdV ok q) M1 N) → w_X7_read_p36 post j 1 (nI PP.length) M N) ∧ (∀ (o r : Nat) (S0 : List (Nat × Nat)) (M : am_I) (N : am_N) (post : Int32 → am_I → am_N → Prop) (had : Int32) (j : Nat), r < 9 → RSt t n p o (S0 ++ PP.flatMap stS) M → M (3, 0, 0) 49 = nI p → M (3, 0, 0) 45 = nI r → M (3, 0, 34) r = nI PP.length → RPg PP r (S0 ++ PP.flatMap stS) M → S0.length ≤ 5000 → m + 2 ≤ j → (∀ M1, FrW r M M1 → RPf S0 M1 → (ok = true → M1 (3, 0, 0) 46 = nI (S0 ++ QQ.flatMap stS).length ∧ RPf (S0 ++ QQ.flatMap stS) M1 ∧ M1 (3, 0, 34) r = nI QQ.length ∧ RPg QQ r (S0 ++ QQ.flatMap stS) M1) → (ok = false → M1 (3, 0, 0) 49 = nI q) → w_X12_rules_p174 post had (bI ok) M1 N) → w_X12_rules_p88 post j had 1 M N)
theorem RDR.tk {t : Nat → Nat} {n m p : Nat} {PP : List SX} {ok : Bool} {q : Nat} {QQ : List SX} (h : RDR t n m p PP ok q QQ) : TK t n q := h.1
theorem RDR.ln {t : Nat → Nat} {n m p : Nat} {PP : List SX} {ok : Bool} {q : Nat} {QQ : List SX} (h : RDR t n m p PP ok q QQ) : ok = true → QQ.length ≤ 24 ∧ (QQ.flatMap stS).length ≤ 500 ∧ (QQ.flatMap cdS).length ≤ 548 ∧ ∀ x, x ∈ QQ → okS x := h.2.1
theorem RDR.cl {t : Nat → Nat} {n m p : Nat} {PP : List SX} {ok : Bool} {q : Nat} {QQ : List SX} (h : RDR t n m p PP ok q QQ) : ∀ (M : am_I) (N : am_N) (post : Int32 → am_I → am_N → Prop) (j : Nat), CSt t n p (PP.flatMap cdS) M → M (0, 0, 7) 8 = nI PP.length → m + 2 ≤ j → (∀ M1, FrP2 M M1 → (ok = true → CSt t n q (QQ.flatMap cdS) M1 ∧ M1 (0, 0, 7) 8 = nI QQ.length) → post (rdV ok q) M1 N) → w_X7_read_p36 post j 1 (nI PP.length) M N := h.2.2.1
theorem RDR.rf {t : Nat → Nat} {n m p : Nat} {PP : List SX} {ok : Bool} {q : Nat} {QQ : List SX} (h : RDR t n m p PP ok q QQ) : ∀ (o r : Nat) (S0 : List (Nat × Nat)) (M : am_I) (N : am_N) (post : Int32 → am_I → am_N → Prop) (had : Int32) (j : Nat), r < 9 → RSt t n p o (S0 ++ PP.flatMap stS) M → M (3, 0, 0) 49 = nI p → M (3, 0, 0) 45 = nI r → M (3, 0, 34) r = nI PP.length → RPg PP r (S0 ++ PP.flatMap stS) M → S0.length ≤ 5000 → m + 2 ≤ j → (∀ M1, FrW r M M1 → RPf S0 M1 → (ok = true → M1 (3, 0, 0) 46 = nI (S0 ++ QQ.flatMap stS).length ∧ RPf (S0 ++ QQ.flatMap stS) M1 ∧ M1 (3, 0, 34) r = nI QQ.length ∧ RPg QQ r (S0 ++ QQ.flatMap stS) M1) → (ok = false → M1 (3, 0, 0) 49 = nI q) → w_X12_rules_p174 post had (bI ok) M1 N) → w_X12_rules_p88 post j had 1 M N := h.2.2.2
theorem fm_snoc {α β : Type} {f : α → List β} {A : List α} {x : α} : (A ++ [x]).flatMap f = A.flatMap f ++ f x := by
  rw [List.flatMap_append, List.flatMap_cons, List.flatMap_nil, List.append_nil]
theorem read_rest (hn : n ≤ 500) : ∀ m p PP, TK t n p → PP.length + m = 24 → (PP.flatMap cdS).length + (cs t n - cs t p) ≤ 500 + PP.length → (PP.flatMap stS).length + (cs t n - cs t p) ≤ 500 → (∀ x, x ∈ PP → okS x) → ∃ ok q QQ, RDR t n m p PP ok q QQ := by
  intro m
  induction m with
  | zero =>
    intro p PP hk hm hc1 hs1 hok
    have hpn := cs_mono (t := t) hk.1
    have hpn' := hk.1
    have cEnd : ∀ {M : am_I} {N : am_N} {post : Int32 → am_I → am_N → Prop} {j : Nat}, w_X7_read_p64 post 1 M N → 2 ≤ j → w_X7_read_p36 post j 1 (nI PP.length) M N := by
      intro M N post j h hj
      obtain ⟨j', rfl⟩ : ∃ j', j = j' + 1 := ⟨j - 1, by omega⟩
      rw [w_X7_read_p36_s]
      unfold w_X7_read_p36_b
      exact ⟨fun _ => h, fun z => absurd (nI_le (a := 24) (by omega) (by omega)) z⟩
    by_cases hp : p = n
    · subst hp
      refine ⟨true, p, PP, hk, fun _ => ⟨by omega, by omega, by omega, hok⟩, ?_, ?_⟩
      · intro M N post j S h8 hj hpost
        refine cEnd ?_ (by omega)
        unfold w_X7_read_p64
        exact ⟨fun z => absurd z (by decide), fun _ => c_here S.k hn S.c hk (by rw [tok_n]; exact ⟨fun z => absurd rfl z, fun _ => hpost M FrP2.rf (fun _ => ⟨S, h8⟩)⟩)⟩
      · intro o r S0 M N post had j hr S e49 e45 e34 hg hS0 hj hpost
        obtain ⟨j', rfl⟩ : ∃ j', j = j' + 1 := ⟨j - 1, by omega⟩
        rw [w_X12_rules_p88_s]
        unfold w_X12_rules_p88_b
        have fin := hpost M FrW.rf S.l.pre (fun _ => ⟨S.z, S.l, e34, hg⟩) (fun z => (nomatch z))
        exact ⟨fun z => absurd z (by decide), fun _ => ⟨fun _ => fin, fun z => absurd (by rw [e49, S.r.s]; exact nI_le (Nat.le_refl _) (by omega)) z⟩⟩
    · have hp' : p < n := by omega
      refine ⟨false, p, [], hk, fun z => (nomatch z), ?_, ?_⟩
      · intro M N post j S h8 hj hpost
        refine cEnd ?_ (by omega)
        unfold w_X7_read_p64
        refine ⟨fun z => absurd z (by decide), fun _ => c_here S.k hn S.c hk ⟨fun _ => ?_, fun z => absurd z (tok_z hk hp')⟩⟩
        unfold w_X7_read_p79
        exact c_placeHere S.k hn S.c hk (hpost M FrP2.rf (fun z => (nomatch z)))
      · intro o r S0 M N post had j hr S e49 e45 e34 hg hS0 hj hpost
        obtain ⟨j', rfl⟩ : ∃ j', j = j' + 2 := ⟨j - 2, by omega⟩
        rw [w_X12_rules_p88_s]
        unfold w_X12_rules_p88_b
        rw [e49, S.r.s, e45, nI_clamp (show r < 2 ^ 31 by omega), e34]
        refine ⟨fun z => absurd z (by decide), fun _ => ⟨fun z => absurd z (nI_ge hp' (by omega)), fun _ => ⟨vp_in_nI hr (by omega), fun _ => ?_, fun z => absurd (nI_le (a := 24) (by omega) (by omega)) z⟩⟩⟩
        unfold w_X12_rules_p146
        refine ⟨fun z => absurd rfl z, fun _ => ?_⟩
        rw [w_X12_rules_p88_s]
        unfold w_X12_rules_p88_b
        exact ⟨fun _ => hpost M FrW.rf S.l.pre (fun z => (nomatch z)) (fun _ => e49), fun z => absurd rfl z⟩
  | succ m ih =>
    intro p PP hk hm hc1 hs1 hok
    have hpn := cs_mono (t := t) hk.1
    have hpn' := hk.1
    by_cases hp : p = n
    · subst hp
      refine ⟨true, p, PP, hk, fun _ => ⟨by omega, by omega, by omega, hok⟩, ?_, ?_⟩
      · intro M N post j S h8 hj hpost
        obtain ⟨j', rfl⟩ : ∃ j', j = j' + 1 := ⟨j - 1, by omega⟩
        have fin : w_X7_read_p64 post 1 M N := by
          unfold w_X7_read_p64
          exact ⟨fun z => absurd z (by decide), fun _ => c_here S.k hn S.c hk (by rw [tok_n]; exact ⟨fun z => absurd rfl z, fun _ => hpost M FrP2.rf (fun _ => ⟨S, h8⟩)⟩)⟩
        rw [w_X7_read_p36_s]
        unfold w_X7_read_p36_b
        exact ⟨fun _ => fin, fun _ => ⟨fun z => absurd z (by decide), fun _ => c_here S.k hn S.c hk (by rw [tok_n]; exact ⟨fun _ => fin, fun z => absurd rfl z⟩)⟩⟩
      · intro o r S0 M N post had j hr S e49 e45 e34 hg hS0 hj hpost
        obtain ⟨j', rfl⟩ : ∃ j', j = j' + 1 := ⟨j - 1, by omega⟩
        rw [w_X12_rules_p88_s]
        unfold w_X12_rules_p88_b
        have fin := hpost M FrW.rf S.l.pre (fun _ => ⟨S.z, S.l, e34, hg⟩) (fun z => (nomatch z))
        exact ⟨fun z => absurd z (by decide), fun _ => ⟨fun _ => fin, fun z => absurd (by rw [e49, S.r.s]; exact nI_le (Nat.le_refl _) (by omega)) z⟩⟩
    · have hp' : p < n := by omega
      obtain ⟨ok1, q1, x, A⟩ := SK_ex hn hk
      have hq1 := cs_mono (t := t) A.tk.1
      have amo := A.mo
      have cBeg : ∀ {M : am_I} {N : am_N} {post : Int32 → am_I → am_N → Prop} {j : Nat}, CSt t n p (PP.flatMap cdS) M → w_X7_readStatement M N (fun zr4 zM5 zN6 => w_X7_read_p36 post j zr4 (nI (PP.length + 1)) zM5 zN6) → w_X7_read_p36 post (j + 1) 1 (nI PP.length) M N := by
        intro M N post j S h
        rw [w_X7_read_p36_s]
        unfold w_X7_read_p36_b
        rw [nI_1]
        exact ⟨fun z => absurd z (nI_ge (b := 24) (by omega) (by omega)), fun _ => ⟨fun z => absurd z (by decide), fun _ => c_here S.k hn S.c hk ⟨fun z => absurd z (tok_z hk hp'), fun _ => h⟩⟩⟩
      have rBeg : ∀ {o r : Nat} {S0 : List (Nat × Nat)} {M : am_I} {N : am_N} {post : Int32 → am_I → am_N → Prop} {had : Int32} {j : Nat}, r < 9 → RSt t n p o (S0 ++ PP.flatMap stS) M → M (3, 0, 0) 49 = nI p → M (3, 0, 0) 45 = nI r → M (3, 0, 34) r = nI PP.length → w_X12_statement (nI (24 * r + PP.length)) M N (fun zr1 zM2 zN3 => ((zr1 = 0 → w_X12_rules_p146 post (w_X12_rules_p88 post j) had 0 zM2 zN3) ∧ (¬ zr1 = 0 → w_X12_rules_p146 post (w_X12_rules_p88 post j) had 1 zM2 zN3))) → w_X12_rules_p88 post (j + 1) had 1 M N := by
        intro o r S0 M N post had j hr S e49 e45 e34 h
        rw [w_X12_rules_p88_s]
        unfold w_X12_rules_p88_b
        have e24 : (24 : Int32) * nI r + nI PP.length = nI (24 * r + PP.length) := by
          have : nI 24 * nI r = nI (24 * r) := pk_mul 24 r
          rw [← nI_add, ← this]; rfl
        rw [e49, S.r.s, e45, nI_clamp (show r < 2 ^ 31 by omega), e34, e24]
        exact ⟨fun z => absurd z (by decide), fun _ => ⟨fun z => absurd z (nI_ge hp' (by omega)), fun _ => ⟨vp_in_nI hr (by omega), fun z => absurd z (nI_ge (b := 24) (by omega) (by omega)), fun _ => ⟨vp_in_nI hr (by omega), h⟩⟩⟩⟩
      cases ok1 with
      | false =>
        refine ⟨false, q1, [], A.tk, fun z => (nomatch z), ?_, ?_⟩
        · intro M N post j S h8 hj hpost
          obtain ⟨j', rfl⟩ : ∃ j', j = j' + 2 := ⟨j - 2, by omega⟩
          refine cBeg S ?_
          refine A.cl _ M N _ PP.length S h8 (by omega) (fun M1 F1 _ C => ?_)
          have fin : w_X7_read_p64 post 0 M1 N := by
            unfold w_X7_read_p64 w_X7_read_p79
            exact ⟨fun _ => c_placeHere C.k hn C.c A.tk (hpost M1 F1 (fun z => (nomatch z))), fun z => absurd rfl z⟩
          show w_X7_read_p36 post (j' + 1) 0 (nI (PP.length + 1)) M1 N
          rw [w_X7_read_p36_s]
          unfold w_X7_read_p36_b
          exact ⟨fun _ => fin, fun _ => ⟨fun _ => fin, fun z => absurd rfl z⟩⟩
        · intro o r S0 M N post had j hr S e49 e45 e34 hg hS0 hj hpost
          obtain ⟨j', rfl⟩ : ∃ j', j = j' + 2 := ⟨j - 2, by omega⟩
          refine rBeg hr S e49 e45 e34 ?_
          have ll : (S0 ++ PP.flatMap stS).length = S0.length + (PP.flatMap stS).length := List.length_append
          refine A.rf o _ M N _ _ (by omega) S (by omega) (fun M1 F1 P1 _ h2 => ⟨fun _ => ?_, fun z => absurd rfl z⟩)
          unfold w_X12_rules_p146
          refine ⟨fun z => absurd rfl z, fun _ => ?_⟩
          rw [w_X12_rules_p88_s]
          unfold w_X12_rules_p88_b
          exact ⟨fun _ => hpost M1 (FrW.ofV F1 (by omega)) P1.pre (fun z => (nomatch z)) (fun _ => h2 rfl), fun z => absurd rfl z⟩
      | true =>
        obtain ⟨l1, l2⟩ := A.ln rfl
        have ll : (PP ++ [x]).length = PP.length + 1 := by rw [List.length_append]; rfl
        have lc : ((PP ++ [x]).flatMap cdS).length = (PP.flatMap cdS).length + (cdS x).length := by rw [fm_snoc, List.length_append]
        have ls : ((PP ++ [x]).flatMap stS).length = (PP.flatMap stS).length + (stS x).length := by rw [fm_snoc, List.length_append]
        obtain ⟨ok, q, QQ, R⟩ := ih q1 (PP ++ [x]) A.tk (by omega) (by omega) (by omega) (fun y hy => by
          rcases List.mem_append.mp hy with h | h
          · exact hok y h
          · rw [List.mem_singleton.mp h]; exact A.ty rfl)
        refine ⟨ok, q, QQ, R.tk, R.ln, ?_, ?_⟩
        · intro M N post j S h8 hj hpost
          obtain ⟨j', rfl⟩ : ∃ j', j = j' + 1 := ⟨j - 1, by omega⟩
          refine cBeg S ?_
          refine A.cl _ M N _ PP.length S h8 (by omega) (fun M1 F1 h1 _ => ?_)
          obtain ⟨S1, e1⟩ := h1 rfl
          rw [← ll]
          rw [← ll] at e1
          rw [← fm_snoc] at S1
          exact R.cl M1 N post j' S1 e1 (by omega) (fun M2 F2 h2 => hpost M2 (F1.tr F2) h2)
        · intro o r S0 M N post had j hr S e49 e45 e34 hg hS0 hj hpost
          obtain ⟨j', rfl⟩ : ∃ j', j = j' + 1 := ⟨j - 1, by omega⟩
          refine rBeg hr S e49 e45 e34 ?_
          have lr : (S0 ++ PP.flatMap stS).length = S0.length + (PP.flatMap stS).length := List.length_append
          refine A.rf o _ M N _ _ (by omega) S (by omega) (fun M1 F1 P1 h1 _ => ⟨fun z => absurd z (by decide), fun _ => ?_⟩)
          obtain ⟨S1, d1, d2, d3, d4⟩ := h1 rfl
          unfold w_X12_rules_p146
          have e45' : M1 (3, 0, 0) 45 = nI r := by rw [F1.2.1 45 (by decide) (by decide) (by decide) (by decide) (by decide)]; exact e45
          have e34' : M1 (3, 0, 34) r = nI PP.length := by rw [F1.1 _ (by simp) (by simp) (by simp) (by simp) (by simp) (by simp) (by simp)]; exact e34
          rw [e45', nI_clamp (show r < 2 ^ 31 by omega), e34', nI_1]
          refine ⟨fun _ => ⟨vp_in_nI hr (by omega), vp_in_nI hr (by omega), ?_⟩, fun z => absurd z (by decide)⟩
          have S2 : RSt t n q1 0 (S0 ++ PP.flatMap stS ++ stS x) (am_u M1 (3, 0, 34) r (nI (PP.length + 1))) := S1.r34
          obtain ⟨a, ea, hb⟩ := S2.a
          refine r_blanks S2.r ea hb ?_
          have F3 : FrA (am_u M1 (3, 0, 34) r (nI (PP.length + 1))) (am_u (am_u M1 (3, 0, 34) r (nI (PP.length + 1))) (3, 0, 0) 49 (nI q1)) := FrA.u (Or.inl rfl)
          have e49' : am_u (am_u M1 (3, 0, 34) r (nI (PP.length + 1))) (3, 0, 0) 49 (nI q1) (3, 0, 0) 49 = nI q1 := by rw [am_u_c, pk_us]
          have S3 := S2.same F3 A.tk e49'
          rw [List.append_assoc, ← fm_snoc] at S3
          have FF : FrW r M (am_u (am_u M1 (3, 0, 34) r (nI (PP.length + 1))) (3, 0, 0) 49 (nI q1)) := ((FrW.ofV F1 (by omega)).tr FrW.r34).tr (FrW.ofQ (FrQ.ofA F3))
          refine R.rf 0 r S0 _ N post had j' hr S3 e49' ?_ ?_ ?_ hS0 (by omega) (fun M4 F4 P4 h4 h5 => hpost M4 (FF.tr F4) P4 h4 h5)
          · rw [FF.2.1 45 (by decide) (by decide) (by decide) (by decide) (by decide)]; exact e45
          · rw [am_u_o _ _ _ (by simp), am_u_c, pk_us, ll]
          · have hg1 : RPg (PP ++ [x]) r (S0 ++ PP.flatMap stS ++ stS x) M1 := hg.snoc (fun j hj => F1.2.2 j hj) d1 d2 d3 d4
            rw [List.append_assoc, ← fm_snoc] at hg1
            refine hg1.rows (a := (PP ++ [x]).length) (Nat.le_refl _) (fun j _ => ?_)
            rw [F3.1 _ (by simp), F3.1 _ (by simp), F3.1 _ (by simp), F3.1 _ (by simp), am_u_o _ _ _ (by simp), am_u_o _ _ _ (by simp), am_u_o _ _ _ (by simp), am_u_o _ _ _ (by simp)]
            exact ⟨rfl, rfl, rfl, rfl⟩
end RX
