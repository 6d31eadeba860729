/-! ===== statements, whole texts ===== -/
def SK (t : Nat → Nat) (n p : Nat) (ok : Bool) (q : Nat) (x : Nat × List (Nat × Nat) × List (Nat × Nat)) : Prop := (TK t n q) ∧ (cs t p ≤ cs t q) ∧ (ok = true → (stS x).length + cs t p + 1 ≤ cs t q ∧ (cdS x).length + cs t p ≤ cs t q + 1) ∧ (ok = true → okS x) ∧ (∀ (CC : List Int32) (M : am_I) (N : am_N) (post : Int32 → am_I → am_N → Prop) (c : Nat), CSt t n p CC M → M (0, 0, 7) 8 = nI c → CC.length + (cs t n - cs t p) + 1 ≤ 548 → (∀ M1, FrP2 M M1 → (ok = true → CSt t n q (CC ++ cdS x) M1 ∧ M1 (0, 0, 7) 8 = nI (c + 1)) → CFl t n q M1 → post (bI ok) M1 N) → w_X7_readStatement M N post) ∧ (∀ (o : Nat) (SS : List (Nat × Nat)) (M : am_I) (N : am_N) (post : Int32 → am_I → am_N → Prop) (k : Nat), k < 216 → RSt t n p o SS M → SS.length + (cs t n - cs t p) ≤ 6300 → (∀ M1, FrV k M M1 → RPf SS M1 → (ok = true → RSt t n q 0 (SS ++ stS x) M1 ∧ M1 (3, 0, 35) k = nI x.1 ∧ M1 (3, 0, 36) k = nI SS.length ∧ M1 (3, 0, 37) k = nI (SS.length + x.2.1.length) ∧ M1 (3, 0, 38) k = nI (SS.length + (stS x).length)) → (ok = false → M1 (3, 0, 0) 49 = nI q) → post (bI ok) M1 N) → w_X12_statement (nI k) M N post)
theorem SK.tk {t : Nat → Nat} {n p : Nat} {ok : Bool} {q : Nat} {x : Nat × List (Nat × Nat) × List (Nat × Nat)} (h : SK t n p ok q x) : TK t n q := h.1
theorem SK.mo {t : Nat → Nat} {n p : Nat} {ok : Bool} {q : Nat} {x : Nat × List (Nat × Nat) × List (Nat × Nat)} (h : SK t n p ok q x) : cs t p ≤ cs t q := h.2.1
theorem SK.ln {t : Nat → Nat} {n p : Nat} {ok : Bool} {q : Nat} {x : Nat × List (Nat × Nat) × List (Nat × Nat)} (h : SK t n p ok q x) : ok = true → (stS x).length + cs t p + 1 ≤ cs t q ∧ (cdS x).length + cs t p ≤ cs t q + 1 := h.2.2.1
theorem SK.ty {t : Nat → Nat} {n p : Nat} {ok : Bool} {q : Nat} {x : Nat × List (Nat × Nat) × List (Nat × Nat)} (h : SK t n p ok q x) : ok = true → okS x := h.2.2.2.1
theorem SK.cl {t : Nat → Nat} {n p : Nat} {ok : Bool} {q : Nat} {x : Nat × List (Nat × Nat) × List (Nat × Nat)} (h : SK t n p ok q x) : ∀ (CC : List Int32) (M : am_I) (N : am_N) (post : Int32 → am_I → am_N → Prop) (c : Nat), CSt t n p CC M → M (0, 0, 7) 8 = nI c → CC.length + (cs t n - cs t p) + 1 ≤ 548 → (∀ M1, FrP2 M M1 → (ok = true → CSt t n q (CC ++ cdS x) M1 ∧ M1 (0, 0, 7) 8 = nI (c + 1)) → CFl t n q M1 → post (bI ok) M1 N) → w_X7_readStatement M N post := h.2.2.2.2.1
theorem SK.rf {t : Nat → Nat} {n p : Nat} {ok : Bool} {q : Nat} {x : Nat × List (Nat × Nat) × List (Nat × Nat)} (h : SK t n p ok q x) : ∀ (o : Nat) (SS : List (Nat × Nat)) (M : am_I) (N : am_N) (post : Int32 → am_I → am_N → Prop) (k : Nat), k < 216 → RSt t n p o SS M → SS.length + (cs t n - cs t p) ≤ 6300 → (∀ M1, FrV k M M1 → RPf SS M1 → (ok = true → RSt t n q 0 (SS ++ stS x) M1 ∧ M1 (3, 0, 35) k = nI x.1 ∧ M1 (3, 0, 36) k = nI SS.length ∧ M1 (3, 0, 37) k = nI (SS.length + x.2.1.length) ∧ M1 (3, 0, 38) k = nI (SS.length + (stS x).length)) → (ok = false → M1 (3, 0, 0) 49 = nI q) → post (bI ok) M1 N) → w_X12_statement (nI k) M N post := h.2.2.2.2.2
section RD
variable {t : Nat → Nat} {n p q k o : Nat} {M M1 M2 : am_I} {N : am_N} {CC : List Int32} {SS : List (Nat × Nat)}
theorem r_stBeg {post : Int32 → am_I → am_N → Prop} (hk : TK t n p) (S : RSt t n p o SS M) (h1 : ∀ s, s < 4 → tokV t n p = nI (s + 1) → p < n → ∀ M1, FrQ M M1 → RSt t n (nxT t n p) o SS M1 → w_X12_statement_p62 post (nI k) (nI s) (nI k) M1 N) (h0 : (∀ s, s < 4 → ¬ tokV t n p = nI (s + 1)) → ∀ M1, FrQ M M1 → RSt t n p o SS M1 → M1 (3, 0, 0) 49 = nI p → w_X12_statement_p62 post (nI k) (-1) (nI k) M1 N) : w_X12_statement (nI k) M N post := by
  unfold w_X12_statement
  refine q_takes (k := 1) S hk (by decide) (by decide) (fun z hp M1 F1 S1 => ⟨fun w => absurd w (by decide), fun _ => h1 0 (by decide) z hp M1 (FrQ.ofA F1) S1⟩) (fun z1 M1 F1 S1 _ => ⟨fun _ => ?_, fun w => absurd rfl w⟩)
  refine q_takes (k := 2) S1 hk (by decide) (by decide) (fun z hp M2 F2 S2 => ⟨fun w => absurd w (by decide), fun _ => h1 1 (by decide) z hp M2 (FrQ.ofA (F1.tr F2)) S2⟩) (fun z2 M2 F2 S2 _ => ⟨fun _ => ?_, fun w => absurd rfl w⟩)
  refine q_takes (k := 3) S2 hk (by decide) (by decide) (fun z hp M3 F3 S3 => ⟨fun w => absurd w (by decide), fun _ => h1 2 (by decide) z hp M3 (FrQ.ofA ((F1.tr F2).tr F3)) S3⟩) (fun z3 M3 F3 S3 _ => ⟨fun _ => ?_, fun w => absurd rfl w⟩)
  refine q_takes (k := 4) S3 hk (by decide) (by decide) (fun z hp M4 F4 S4 => ⟨fun w => absurd w (by decide), fun _ => h1 3 (by decide) z hp M4 (FrQ.ofA ((F1.tr F2).tr (F3.tr F4))) S4⟩) (fun z4 M4 F4 S4 e4 => ⟨fun _ => h0 (fun s hs z => ?_) M4 (FrQ.ofA ((F1.tr F2).tr (F3.tr F4))) S4 e4, fun w => absurd rfl w⟩)
  have : s = 0 ∨ s = 1 ∨ s = 2 ∨ s = 3 := by omega
  rcases this with r | r | r | r <;> subst r
  · exact z1 z
  · exact z2 z
  · exact z3 z
  · exact z4 z
theorem r_st62 {s : Nat} {post : Int32 → am_I → am_N → Prop} (h216 : k < 216) (hs : s < 4) (S : RSt t n p o SS M) (h : ∀ M1, FrV k M M1 → RSt t n p 0 SS M1 → M1 (3, 0, 35) k = nI s → M1 (3, 0, 36) k = nI SS.length → ((¬ s = 3 → w_X12_statement_p109 post (nI k) M1 N) ∧ (s = 3 → rcM 40 3 M1 N (fun zr1 zM2 zN3 => ((¬ zr1 = 0 → w_X12_statement_p109 post (nI k) zM2 zN3) ∧ (zr1 = 0 → post 0 zM2 zN3)))))) : w_X12_statement_p62 post (nI k) (nI s) (nI k) M N := by
  unfold w_X12_statement_p62
  have S1 : RSt t n p 0 SS (am_u (am_u M (3, 0, 35) k (nI s)) (3, 0, 0) 50 0) := RSt.deep0 (S.row (Or.inl rfl))
  rw [nI_clamp (show k < 2 ^ 31 by omega), S1.z]
  have S2 : RSt t n p 0 SS (am_u (am_u (am_u M (3, 0, 35) k (nI s)) (3, 0, 0) 50 0) (3, 0, 36) k (nI SS.length)) := S1.row (Or.inr (Or.inl rfl))
  have F2 : FrV k M (am_u (am_u (am_u M (3, 0, 35) k (nI s)) (3, 0, 0) 50 0) (3, 0, 36) k (nI SS.length)) := (FrV.tr (FrV.row (Or.inl rfl)) FrV.deep).tr (FrV.row (Or.inr (Or.inl rfl)))
  have e35 : am_u (am_u (am_u M (3, 0, 35) k (nI s)) (3, 0, 0) 50 0) (3, 0, 36) k (nI SS.length) (3, 0, 35) k = nI s := by
    rw [am_u_o _ _ _ (by simp), am_u_o _ _ _ (by simp), am_u_c, pk_us]
  have e36 : am_u (am_u (am_u M (3, 0, 35) k (nI s)) (3, 0, 0) 50 0) (3, 0, 36) k (nI SS.length) (3, 0, 36) k = nI SS.length := by
    rw [am_u_c, pk_us]
  have hh := h _ F2 S2 e35 e36
  have q3 : nI s = (3 : Int32) ↔ s = 3 := nI_eq (b := 3) (by omega) (by omega)
  have vk : vp_in (nI k) 216 := vp_in_nI h216 (by omega)
  have a35 : am_u M (3, 0, 35) k (nI s) (3, 0, 35) k = nI s := by rw [am_u_c, pk_us]
  rw [a35, e35]
  refine ⟨vk, vk, fun _ => ⟨vk, vk, fun z => hh.1 (fun w => z (q3.mpr w)), fun z => hh.2 (q3.mp z)⟩, fun z => ?_⟩
  exact absurd (show (0 : Int32) ≤ -1 by rw [← z]; exact nI_le (a := 0) (by omega) (by omega)) (by decide)
theorem ifC_len {B : List (Nat × Nat)} : (ifC B).length ≤ B.length + 1 ∧ (B.length = 0 → (ifC B).length = 1) ∧ (0 < B.length → (ifC B).length = B.length) := by
  cases B with
  | nil => exact ⟨by decide, fun _ => rfl, fun z => absurd z (by decide)⟩
  | cons b B =>
    have : ifC (b :: B) = (b :: B).map enc := rfl
    rw [this, List.length_map, List.length_cons]
    omega
theorem SK_ex (hn : n ≤ 500) (hk : TK t n p) : ∃ ok q x, SK t n p ok q x := by
  have hpn := cs_mono (t := t) hk.1
  by_cases hd : ∃ s, s < 4 ∧ tokV t n p = nI (s + 1)
  · obtain ⟨s, hs, e⟩ := hd
    have hp : p < n := tk_pos2 e (by omega) (by omega)
    obtain ⟨_, k1, c1, _⟩ := nx_sp hk hp
    have hqn := cs_mono (t := t) k1.1
    have cBeg : ∀ {CC : List Int32} {M : am_I} {N : am_N} {post : Int32 → am_I → am_N → Prop}, CSt t n p CC M → (∀ M1, FrP1 M M1 → CSt t n (nxT t n p) CC M1 → ((s = 3 → rcR 40 2 (nI 0) M1 N (fun zr7 zM8 zN9 => ((¬ zr7 = 0 → w_X7_readStatement_p49 post (nI (s + 1)) zM8 zN9) ∧ (zr7 = 0 → post 0 zM8 zN9)))) ∧ (¬ s = 3 → w_X7_emit 0 M1 N (fun zM10 zN11 => w_X7_readStatement_p49 post (nI (s + 1)) zM10 zN11)))) → w_X7_readStatement M N post := by
      intro CC M N post S h
      unfold w_X7_readStatement
      refine c_here S.k hn S.c hk ?_
      unfold w_X11_within
      rw [e]
      obtain ⟨F1, S1⟩ := S.adv hk hp
      have hh := h _ F1 S1
      have q4 : nI (s + 1) = (4 : Int32) ↔ s + 1 = 4 := nI_eq (b := 4) (by omega) (by omega)
      rw [q4]
      refine ⟨fun z => absurd z (nI_nlt (b := 1) (by omega) (by omega)), fun _ => ⟨fun z => absurd z (nI_nlt (a := 4) (by omega) (by omega)), fun _ => ⟨fun _ => ⟨fun z => hh.1 (by omega), fun z => hh.2 (by omega)⟩, fun z => absurd z (by decide)⟩⟩⟩
    have rBeg : ∀ {o : Nat} {SS : List (Nat × Nat)} {M : am_I} {N : am_N} {post : Int32 → am_I → am_N → Prop} {k : Nat}, k < 216 → RSt t n p o SS M → (∀ M1, FrV k M M1 → RSt t n (nxT t n p) 0 SS M1 → M1 (3, 0, 35) k = nI s → M1 (3, 0, 36) k = nI SS.length → ((¬ s = 3 → w_X12_statement_p109 post (nI k) M1 N) ∧ (s = 3 → rcM 40 3 M1 N (fun zr1 zM2 zN3 => ((¬ zr1 = 0 → w_X12_statement_p109 post (nI k) zM2 zN3) ∧ (zr1 = 0 → post 0 zM2 zN3)))))) → w_X12_statement (nI k) M N post := by
      intro o SS M N post k h216 S h
      refine r_stBeg hk S (fun s' hs' e' _ M1 F1 S1 => ?_) (fun z => absurd e (z s hs))
      have : s' = s := by
        have := (nI_eq (show s' + 1 < 2 ^ 31 by omega) (show s + 1 < 2 ^ 31 by omega)).mp (e'.symm.trans e)
        omega
      subst this
      exact r_st62 h216 hs' S1 (fun M2 F2 => h M2 ((FrV.of F1).tr F2))
    by_cases h3 : s = 3
    · subst h3
      obtain ⟨ok1, q1, A0, A⟩ := LK_sum0 hn _ k1
      have hq1 := cs_mono (t := t) A.tk.1
      have amo := A.mo
      cases ok1 with
      | false =>
        refine ⟨false, q1, (0, [], []), A.tk, by omega, fun z => (nomatch z), fun z => (nomatch z), ?_, ?_⟩
        · intro CC M N post c S h8 hroom hpost
          refine cBeg S (fun M1 F1 S1 => ⟨fun _ => ?_, fun z => absurd rfl z⟩)
          exact A.cl 40 (Nat.le_refl _) CC M1 N _ S1 (by omega) (fun M2 F2 _ C => ⟨fun z => absurd rfl z, fun _ => hpost M2 (FrP2.of (F1.tr F2)) (fun z => (nomatch z)) C⟩)
        · intro o SS M N post k h216 S hroom hpost
          refine rBeg h216 S (fun M1 F1 S1 _ _ => ⟨fun z => absurd rfl z, fun _ => ?_⟩)
          exact A.rf 40 (Nat.le_refl _) SS M1 N _ S1 (by omega) (fun M2 F2 P2 _ h2 => ⟨fun z => absurd rfl z, fun _ => hpost M2 (F1.tr (FrV.of F2)) P2 (fun z => (nomatch z)) (fun _ => h2 rfl)⟩)
      | true =>
        have aln := A.ln rfl
        obtain ⟨ok, q, B, K⟩ := K2_ex (s := 3) hn A.tk
        have kmo := K.mo
        have iB := ifC_len (B := B)
        have ec : cdS (3, A0, B) = A0.map enc ++ (ifC B ++ [-nI 4]) := rfl
        have es : stS (3, A0, B) = A0 ++ B := rfl
        refine ⟨ok, q, (3, A0, B), K.tk, by omega, fun z => ?_, fun z => ⟨show 3 < 4 by decide, fun _ => A.ty rfl, fun w => absurd rfl w, K.ty z⟩, ?_, ?_⟩
        · have := K.ln z
          rw [ec, es, List.length_append, List.length_append, List.length_append, List.length_map, List.length_singleton]
          omega
        · intro CC M N post c S h8 hroom hpost
          refine cBeg S (fun M1 F1 S1 => ⟨fun _ => ?_, fun z => absurd rfl z⟩)
          refine A.cl 40 (Nat.le_refl _) CC M1 N _ S1 (by omega) (fun M2 F2 S2 _ => ⟨fun _ => ?_, fun z => absurd z (by decide)⟩)
          have ll : (CC ++ A0.map enc).length = CC.length + A0.length := by rw [List.length_append, List.length_map]
          refine K.cl _ M2 N post c (S2 rfl) (by rw [F2.2 8 (by decide) (by decide), F1.2 8 (by decide) (by decide)]; exact h8) (by omega) (fun M3 F3 h1 C => hpost M3 ((FrP2.of (F1.tr F2)).tr F3) (fun z => ?_) C)
          rw [ec, ← List.append_assoc]
          exact h1 z
        · intro o SS M N post k h216 S hroom hpost
          refine rBeg h216 S (fun M1 F1 S1 b35 b36 => ⟨fun z => absurd rfl z, fun _ => ?_⟩)
          refine A.rf 40 (Nat.le_refl _) SS M1 N _ S1 (by omega) (fun M2 F2 P2 S2 _ => ⟨fun _ => ?_, fun z => absurd z (by decide)⟩)
          have ll : (SS ++ A0).length = SS.length + A0.length := List.length_append
          refine K.rf _ M2 N post k h216 (S2 rfl) (by omega) (fun M3 F3 P3 h1 h2 => hpost M3 ((F1.tr (FrV.of F2)).tr F3) P3.pre (fun z => ?_) h2)
          obtain ⟨d1, d2, d3, d4, d5⟩ := h1 z
          refine ⟨by rw [es, ← List.append_assoc]; exact d1, ?_, ?_, by rw [d4, ll], by rw [d5, es, ll, List.length_append, Nat.add_assoc]⟩
          · rw [d2, F2.1 _ (by simp) (by simp) (by simp)]; exact b35
          · rw [d3, F2.1 _ (by simp) (by simp) (by simp)]; exact b36
    · obtain ⟨ok, q, B, K⟩ := K2_ex (s := s) hn k1
      have hq := cs_mono (t := t) K.tk.1
      have kmo := K.mo
      have iB := ifC_len (B := B)
      have ec : cdS (s, [], B) = [0] ++ (ifC B ++ [-nI (s + 1)]) := by
        unfold cdS
        rw [if_neg (show ¬ s = 3 from h3)]; rfl
      have es : stS (s, [], B) = B := rfl
      refine ⟨ok, q, (s, [], B), K.tk, by omega, fun z => ?_, fun z => ⟨hs, fun w => absurd w h3, fun _ => rfl, K.ty z⟩, ?_, ?_⟩
      · have := K.ln z
        rw [ec, es, List.length_append, List.length_append, List.length_singleton, List.length_singleton]
        omega
      · intro CC M N post c S h8 hroom hpost
        refine cBeg S (fun M1 F1 S1 => ⟨fun z => absurd z h3, fun _ => ?_⟩)
        refine c_emit S1 (by omega) (fun M2 F2 S2 => ?_)
        have ll : (CC ++ [(0 : Int32)]).length = CC.length + 1 := by rw [List.length_append]; rfl
        refine K.cl _ M2 N post c S2 (by rw [F2.2 8 (by decide) (by decide), F1.2 8 (by decide) (by decide)]; exact h8) (by omega) (fun M3 F3 h1 C => hpost M3 ((FrP2.of (F1.tr F2)).tr F3) (fun z => ?_) C)
        rw [ec, ← List.append_assoc]
        exact h1 z
      · intro o SS M N post k h216 S hroom hpost
        refine rBeg h216 S (fun M1 F1 S1 b35 b36 => ⟨fun _ => ?_, fun z => absurd z h3⟩)
        refine K.rf _ M1 N post k h216 S1 (by omega) (fun M3 F3 P3 h1 h2 => hpost M3 (F1.tr F3) P3 (fun z => ?_) h2)
        obtain ⟨d1, d2, d3, d4, d5⟩ := h1 z
        exact ⟨d1, by rw [d2]; exact b35, by rw [d3]; exact b36, d4, d5⟩
  · have hno : ∀ s, s < 4 → ¬ tokV t n p = nI (s + 1) := fun s hs z => hd ⟨s, hs, z⟩
    refine ⟨false, p, (0, [], []), hk, Nat.le_refl _, fun z => (nomatch z), fun z => (nomatch z), ?_, ?_⟩
    · intro CC M N post c S h8 hroom hpost
      unfold w_X7_readStatement
      refine c_here S.k hn S.c hk ?_
      unfold w_X11_within
      have fin : ((¬ (0 : Int32) = 0 → ((tokV t n p = 4 → w_X7_readSum 0 (am_u M (0, 0, 7) 6 ((M (0, 0, 7) 6) + 1)) N (fun zr7 zM8 zN9 => ((¬ zr7 = 0 → w_X7_readStatement_p49 post (tokV t n p) zM8 zN9) ∧ (zr7 = 0 → post 0 zM8 zN9)))) ∧ (¬ tokV t n p = 4 → w_X7_emit 0 (am_u M (0, 0, 7) 6 ((M (0, 0, 7) 6) + 1)) N (fun zM10 zN11 => w_X7_readStatement_p49 post (tokV t n p) zM10 zN11)))) ∧ ((0 : Int32) = 0 → post 0 M N)) := ⟨fun z => absurd rfl z, fun _ => hpost M FrP2.rf (fun z => (nomatch z)) (S.fl (by omega))⟩
      refine ⟨fun _ => fin, fun z1 => ⟨fun _ => fin, fun z2 => ?_⟩⟩
      rcases tok_K hk with v | ⟨x, hx, v⟩ | ⟨m, hm, v⟩
      · rw [v] at z1; exact absurd (by decide) z1
      · rw [v] at z1 z2
        have h1 : ¬ x < 1 := fun w => z1 (nI_lt (b := 1) w (by omega))
        have h2 : ¬ 4 < x := fun w => z2 (nI_lt (a := 4) w (by omega))
        exact absurd (by rw [v, show x - 1 + 1 = x by omega]) (hno (x - 1) (by omega))
      · rw [v] at z2
        exact absurd (nI_lt (a := 4) (by omega) (by omega)) z2
    · intro o SS M N post k h216 S hroom hpost
      refine r_stBeg hk S (fun s hs z => absurd z (hno s hs)) (fun _ M1 F1 S1 e1 => ?_)
      unfold w_X12_statement_p62
      rw [nI_clamp (show k < 2 ^ 31 by omega)]
      have a35 : am_u M1 (3, 0, 35) k (-1) (3, 0, 35) k = -1 := by rw [am_u_c, pk_us]
      have vk : vp_in (nI k) 216 := vp_in_nI h216 (by omega)
      rw [a35]
      refine ⟨vk, vk, fun z => absurd rfl z, fun _ => hpost _ ((FrV.of F1).tr (FrV.row (Or.inl rfl))) (S1.l.cg (am_u_o _ _ _ (by simp)) (am_u_o _ _ _ (by simp))) (fun z => (nomatch z)) (fun _ => ?_)⟩
      rw [am_u_o _ _ _ (by simp)]; exact e1
end RD
