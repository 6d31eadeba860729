/-! ===== the two parsers, step by step: atoms, single conditions ===== -/
section AT
variable {t : Nat → Nat} {n o p q d L0 : Nat} {M M1 : am_I} {N : am_N}
theorem sg_b {x : Nat} (h : sgB x = true) : x < 128 ∧ grp x = 3 := by
  have : x = 59 ∨ x = 43 ∨ x = 45 ∨ x = 42 ∨ x = 47 ∨ x = 40 ∨ x = 41 ∨ x = 91 ∨ x = 93 ∨ x = 60 ∨ x = 62 ∨ x = 61 := by
    unfold sgB at h
    simp only [Bool.or_eq_true, beq_iff_eq] at h
    omega
  rcases this with r | r | r | r | r | r | r | r | r | r | r | r <;> subst r <;> exact ⟨by decide, by decide⟩
theorem tok_K (hk : TK t n p) : tokV t n p = -1 ∨ (∃ x, x < 128 ∧ tokV t n p = nI x) ∨ ∃ m, m < 100000 ∧ tokV t n p = nI (1000 + m) := by
  rcases tok_cases hk with ⟨_, v⟩ | ⟨_, _, s, v⟩ | ⟨_, _, _, v⟩ | ⟨_, _, _, v, b⟩ | ⟨_, v, _⟩
  · exact Or.inr (Or.inl ⟨0, by decide, v⟩)
  · exact Or.inr (Or.inl ⟨t p, (sg_b s).1, v⟩)
  · rcases wordV_rng (wN t (enT t n p - p) p) with z | ⟨k, _, k2, z⟩
    · exact Or.inl (v.trans z)
    · exact Or.inr (Or.inl ⟨k, by omega, v.trans z⟩)
  · exact Or.inr (Or.inr ⟨_, b, v⟩)
  · exact Or.inl v
theorem r_peek {s : Nat} {A B : Prop} (R : RT t n M) (e : M (3, 0, 0) 49 = nI p) (hk : TK t n p) (hg : sgB s = true) (hA : ¬ tokV t n p = nI s → A) (hB : tokV t n p = nI s → B) : ((M (3, 0, 0) 48) ≤ (M (3, 0, 0) 49) → A) ∧ (¬ (M (3, 0, 0) 48) ≤ (M (3, 0, 0) 49) → vp_in (M (3, 0, 0) 49) 500 ∧ ((¬ (M (3, 0, 44) (M (3, 0, 0) 49).toNatClampNeg) = nI s → A) ∧ ((M (3, 0, 44) (M (3, 0, 0) 49).toNatClampNeg) = nI s → B))) := by
  have hn := R.b
  have hpn := hk.1
  have hs := (sg_b hg).1
  have ts := tok_sign (s := s) R hk (by omega) hg
  rw [e, R.s, nI_clamp (show p < 2 ^ 31 by omega)]
  refine ⟨fun z => hA fun w => ?_, fun z => ?_⟩
  · exact nI_ge (by have := (ts.mp w).1; omega) (by omega) z
  · have hp : p < n := Nat.lt_of_not_le fun w => z (nI_le w (by omega))
    obtain ⟨c1, c2⟩ := R.v p hp
    rw [c2, sb_eq c1 hs]
    exact ⟨vp_in_nI (by omega) (by omega), fun z => hA fun w => z (ts.mp w).2, fun z => hB (ts.mpr ⟨hp, z⟩)⟩
theorem enT_sg {s : Nat} (R : RT t n M) (hk : TK t n p) (hg : sgB s = true) (e : tokV t n p = nI s) : enT t n p = p + 1 := by
  obtain ⟨hp, h2⟩ := (tok_sign (s := s) R hk (by have := (sg_b hg).1; omega) hg).mp e
  exact (enT_sp hk hp).2.2.2.2 (by rw [h2]; exact (sg_b hg).2)
theorem r_at96 {rc : Nat → am_I → am_N → (Int32 → am_I → am_N → Prop) → Prop} {SS : List (Nat × Nat)} {post : Int32 → am_I → am_N → Prop} (S : RSt t n p o SS M) (e : M (3, 0, 0) 49 = nI p) (hk : TK t n p) (hl : SS.length < 6300 ∨ ∀ a, a < 8 → ¬ tokV t n p = nI (9 + a)) (h1 : ∀ a, a < 8 → tokV t n p = nI (9 + a) → ∀ M1, FrQ M M1 → RSt t n (nxT t n p) o (SS ++ [(1, a)]) M1 → post 1 M1 N) (h0 : (∀ a, a < 8 → ¬ tokV t n p = nI (9 + a)) → ∀ M1, FrQ M M1 → RSt t n p o SS M1 → M1 (3, 0, 0) 49 = nI p → post 0 M1 N) : w_X12_atomO_p96 rc post M N := by
  unfold w_X12_atomO_p96
  refine r_word S.r e hk.nb (fun M1 F1 e49 e63 => ?_)
  have tw : ∀ a, a < 8 → (tokV t n p = nI (9 + a) ↔ wVal t n p = WC (9 + a)) := fun a ha => tok_word S.r hk (by omega) (by omega)
  refine r_asked (wVal_lt S.r hk.1) (fun k hk8 ek => ⟨fun _ => ?_, fun z => ?_⟩) (fun hno => ⟨fun z => absurd rfl z, fun _ => ?_⟩)
  · have et := (tw k hk8).mpr ek
    have hp : p < n := tk_pos2 et (by omega) (by omega)
    rw [e63]
    have hl' : SS.length < 6300 := by
      rcases hl with h | h
      · exact h
      · exact absurd et (h k hk8)
    have g1 : grp (t p) = 1 := by
      rcases tok_cases hk with ⟨h, _⟩ | ⟨_, _, s, v⟩ | ⟨_, g, _, _⟩ | ⟨_, _, _, v, b⟩ | ⟨_, v, _⟩
      · omega
      · rw [v] at et
        have h1 := (sg_b s).1
        have h2 := (nI_eq (by omega) (by omega)).mp et
        rw [h2] at s
        have h3 : ∀ a, a < 8 → ¬ sgB (9 + a) = true := by decide
        exact absurd s (h3 k hk8)
      · exact g
      · rw [v] at et
        have := (nI_eq (by omega) (by omega)).mp et
        omega
      · rw [v] at et
        exact absurd et.symm (fun z => absurd (show (0 : Int32) ≤ -1 by rw [← z]; exact nI_le (a := 0) (by omega) (by omega)) (by decide))
    have F2 : FrA M1 (am_u M1 (3, 0, 0) 49 (nI (wE t n p))) := FrA.u (Or.inl rfl)
    have S2 := S.adv hk hp (F1.tr F2) (by rw [am_u_c, pk_us, wE_en g1])
    exact q_puts S2 hl' (fun M3 F3 S3 => h1 k hk8 et M3 ((FrQ.ofA (F1.tr F2)).tr F3) S3)
  · exact absurd (show (0 : Int32) ≤ -1 by rw [← z]; exact nI_le (a := 0) (by omega) (by omega)) (by decide)
  · exact h0 (fun a ha z => hno a ha ((tw a ha).mp z)) M1 (FrQ.ofA F1) (S.same F1 hk e49) e49
theorem LK_atom (hn : n ≤ 500) (ho : o ≤ 9) (hd : 1 ≤ d) (hE : o < 9 → LKA t n (o + 1) 2 3 false d L0) : LKA t n o 3 5 false d (L0 + 1) := by
  intro p hk
  have hpn := cs_mono (t := t) hk.1
  by_cases hnum : ∃ m, m < 100000 ∧ tokV t n p = nI (1000 + m)
  · obtain ⟨m, hm, e⟩ := hnum
    have hp : p < n := tk_pos2 e (by omega) (by omega)
    obtain ⟨_, k1, c1, _⟩ := nx_sp hk hp
    have hqn := cs_mono (t := t) k1.1
    refine ⟨true, nxT t n p, [(0, m)], k1, by omega, fun _ => by rw [c1, List.length_singleton]; omega, fun _ τ c hc => tyR_one (by unfold tyI; rw [if_pos rfl, if_pos hm]) (by rw [List.length_cons]; omega), ?_, ?_⟩
    · intro L hL CC M N post S hroom hpost
      obtain ⟨L', rfl⟩ : ∃ L', L = L' + 1 := ⟨L - 1, by omega⟩
      rw [rcR_3]
      unfold w_X7_readAtomO
      refine c_here S.k hn S.c hk ?_
      rw [e]
      refine ⟨fun z => absurd z (nI_nlt (b := 1000) (by omega) (by omega)), fun _ => ?_⟩
      have es : nI (1000 + m) - (1000 : Int32) = nI m := by
        have : nI (1000 + m) - nI 1000 = nI (1000 + m - 1000) := pk_sub (by omega)
        rw [show 1000 + m - 1000 = m by omega] at this
        exact this
      rw [es]
      refine c_emit S (by omega) (fun M1 F1 S1 => ?_)
      obtain ⟨F2, S2⟩ := S1.adv hk hp
      exact hpost _ (F1.tr F2) (fun _ => S2) (S2.fl (by rw [List.length_append, List.length_singleton]; omega))
    · intro L hL SS M N post S hroom hpost
      obtain ⟨L', rfl⟩ : ∃ L', L = L' + 1 := ⟨L - 1, by omega⟩
      rw [rcM_5]
      unfold w_X12_atomO
      obtain ⟨a, ea, hb⟩ := S.a
      refine r_takesNumber S.r ea hb hk (fun m' hm' e' _ M1 F1 e49 e64 => ⟨fun z => absurd z (by decide), fun _ => ?_⟩) (fun z => ?_)
      · have : m' = m := by
          have := (nI_eq (show 1000 + m' < 2 ^ 31 by omega) (show 1000 + m < 2 ^ 31 by omega)).mp (e'.symm.trans e)
          omega
        subst this
        rw [e64]
        exact q_puts (w := 0) (S.adv hk hp F1 e49) (by omega) (fun M2 F2 S2 => hpost M2 ((FrQ.ofA F1).tr F2) S2.l.pre (fun _ => S2) (fun z => (nomatch z)))
      · rw [e] at z
        exact absurd z (nI_nlt (b := 1000) (by omega) (by omega))
  · have lt1000 : tokV t n p < 1000 := by
      rcases tok_K hk with v | ⟨x, hx, v⟩ | h
      · rw [v]; decide
      · rw [v]; exact nI_lt (b := 1000) (by omega) (by omega)
      · exact absurd h hnum
    have rBeg : ∀ {L : Nat} {SS : List (Nat × Nat)} {M : am_I} {N : am_N} {post : Int32 → am_I → am_N → Prop}, RSt t n p o SS M → (¬ tokV t n p = nI 40 → ∀ M1, FrQ M M1 → RSt t n p o SS M1 → M1 (3, 0, 0) 49 = nI p → w_X12_atomO_p96 (rcM L) post M1 N) → (tokV t n p = nI 40 → ∀ M1, FrQ M M1 → RSt t n p o SS M1 → M1 (3, 0, 0) 49 = nI p → w_X12_opens M1 N (fun zr6 zM7 zN8 => ((¬ zr6 = 0 → rcM L 3 (am_u zM7 (3, 0, 0) 49 ((zM7 (3, 0, 0) 49) + 1)) zN8 (fun zr9 zM10 zN11 => ((zr9 = 0 → post 0 zM10 zN11) ∧ (¬ zr9 = 0 → w_X12_takesSign 41 zM10 zN11 (fun zr12 zM13 zN14 => ((¬ zr12 = 0 → post 1 (am_u zM13 (3, 0, 0) 50 ((zM13 (3, 0, 0) 50) - 1)) zN14) ∧ (zr12 = 0 → post 0 zM13 zN14))))))) ∧ (zr6 = 0 → post 0 zM7 zN8)))) → w_X12_atomO (rcM L) M N post := by
      intro L SS M N post S h96 h40
      unfold w_X12_atomO
      obtain ⟨a, ea, hb⟩ := S.a
      refine r_takesNumber S.r ea hb hk (fun m' hm' e' _ => absurd ⟨m', hm', e'⟩ hnum) (fun _ M1 F1 e49 => ⟨fun _ => ?_, fun z => absurd rfl z⟩)
      have S1 := S.same F1 hk e49
      refine r_blanks S1.r e49 hk.nb ?_
      rw [am_uid e49]
      exact r_peek (s := 40) S1.r e49 hk (by decide) (fun z => h96 z M1 (FrQ.ofA F1) S1 e49) (fun z => h40 z M1 (FrQ.ofA F1) S1 e49)
    by_cases hw : ∃ a, a < 8 ∧ tokV t n p = nI (9 + a)
    · obtain ⟨a, ha, e⟩ := hw
      have hp : p < n := tk_pos2 e (by omega) (by omega)
      obtain ⟨_, k1, c1, _⟩ := nx_sp hk hp
      have hqn := cs_mono (t := t) k1.1
      refine ⟨true, nxT t n p, [(1, a)], k1, by omega, fun _ => by rw [c1, List.length_singleton]; omega, fun _ τ c hc => tyR_one (by unfold tyI; rw [if_neg (show ¬ (1 : Nat) = 0 by decide), if_pos rfl, if_pos ha]) (by rw [List.length_cons]; omega), ?_, ?_⟩
      · intro L hL CC M N post S hroom hpost
        obtain ⟨L', rfl⟩ : ∃ L', L = L' + 1 := ⟨L - 1, by omega⟩
        rw [rcR_3]
        unfold w_X7_readAtomO
        refine c_here S.k hn S.c hk ⟨fun _ => ?_, fun z => absurd lt1000 z⟩
        unfold w_X11_within
        rw [e]
        refine ⟨fun z => absurd z (nI_nlt (b := 9) (by omega) (by omega)), fun _ => ⟨fun z => absurd z (nI_nlt (a := 16) (by omega) (by omega)), fun _ => ⟨fun z => absurd z (by decide), fun _ => ?_⟩⟩⟩
        refine c_emit S (by omega) (fun M1 F1 S1 => ?_)
        obtain ⟨F2, S2⟩ := S1.adv hk hp
        exact hpost _ (F1.tr F2) (fun _ => S2) (S2.fl (by rw [List.length_append, List.length_singleton]; omega))
      · intro L hL SS M N post S hroom hpost
        obtain ⟨L', rfl⟩ : ∃ L', L = L' + 1 := ⟨L - 1, by omega⟩
        rw [rcM_5]
        refine rBeg S (fun _ M1 F1 S1 e49 => ?_) (fun z => ?_)
        · refine r_at96 S1 e49 hk (Or.inl (by omega)) (fun a' ha' e' M2 F2 S2 => ?_) (fun hno => absurd e (hno a ha))
          have : a' = a := by
            have := (nI_eq (show 9 + a' < 2 ^ 31 by omega) (show 9 + a < 2 ^ 31 by omega)).mp (e'.symm.trans e)
            omega
          subst this
          exact hpost M2 (F1.tr F2) S2.l.pre (fun _ => S2) (fun z => (nomatch z))
        · have := (nI_eq (show 40 < 2 ^ 31 by omega) (show 9 + a < 2 ^ 31 by omega)).mp (z.symm.trans e)
          omega
    · have notw : ∀ {M : am_I} {N : am_N} {post : Int32 → am_I → am_N → Prop}, post 0 M N → w_X11_within (tokV t n p) 9 16 M N post := by
        intro M N post h
        unfold w_X11_within
        refine ⟨fun _ => h, fun z => ⟨fun _ => h, fun z2 => ?_⟩⟩
        rcases tok_K hk with v | ⟨x, hx, v⟩ | hh
        · rw [v] at z; exact absurd (by decide) z
        · rw [v] at z z2
          have h1 : ¬ x < 9 := fun w => z (nI_lt (b := 9) w (by omega))
          have h2 : ¬ 16 < x := fun w => z2 (nI_lt (a := 16) w (by omega))
          exact absurd ⟨x - 9, by omega, by rw [v, show 9 + (x - 9) = x by omega]⟩ hw
        · exact absurd hh hnum
      by_cases h40 : tokV t n p = nI 40
      · have hp : p < n := tk_pos2 h40 (by omega) (by omega)
        obtain ⟨_, k1, c1, _⟩ := nx_sp hk hp
        have hqn := cs_mono (t := t) k1.1
        by_cases h9 : o = 9
        · refine ⟨false, p, [], hk, Nat.le_refl _, fun z => (nomatch z), fun z => (nomatch z), ?_, ?_⟩
          · intro L hL CC M N post S hroom hpost
            obtain ⟨L', rfl⟩ : ∃ L', L = L' + 1 := ⟨L - 1, by omega⟩
            rw [rcR_3]
            unfold w_X7_readAtomO
            refine c_here S.k hn S.c hk ⟨fun _ => notw ⟨fun _ => ⟨fun z => absurd h40 z, fun _ => ⟨fun z => ?_, fun _ => ?_⟩⟩, fun z => absurd rfl z⟩, fun z => absurd lt1000 z⟩
            · exact absurd z (nI_nlt (b := 9) (by omega) (by omega))
            · exact hpost M FrP1.rf (fun z => (nomatch z)) (S.fl (by omega))
          · intro L hL SS M N post S hroom hpost
            obtain ⟨L', rfl⟩ : ∃ L', L = L' + 1 := ⟨L - 1, by omega⟩
            rw [rcM_5]
            refine rBeg S (fun z => absurd h40 z) (fun _ M1 F1 S1 e49 => ?_)
            exact q_opens S1 ho (fun z => by omega) (fun _ => ⟨fun z => absurd rfl z, fun _ => hpost M1 F1 S1.l (fun z => (nomatch z)) (fun _ => e49)⟩)
        · obtain ⟨ok1, q1, E1, A⟩ := hE (by omega) _ k1
          have hq1 := cs_mono (t := t) A.tk.1
          have amo := A.mo
          have cBeg : ∀ {L : Nat} {CC : List Int32} {M : am_I} {N : am_N} {post : Int32 → am_I → am_N → Prop}, CSt t n p CC M → (∀ M1, FrP1 M M1 → CSt t n (nxT t n p) CC M1 → rcR L 2 (nI (o + 1)) M1 N (fun zr7 zM8 zN9 => ((zr7 = 0 → post 0 zM8 zN9) ∧ (¬ zr7 = 0 → w_X7_accept 41 zM8 zN9 (fun zr10 zM11 zN12 => ((zr10 = 0 → post 0 zM11 zN12) ∧ (¬ zr10 = 0 → post 1 zM11 zN12))))))) → w_X7_readAtomO (rcR L) (nI o) M N post := by
            intro L CC M N post S h
            unfold w_X7_readAtomO
            refine c_here S.k hn S.c hk ⟨fun _ => notw ⟨fun _ => ⟨fun z => absurd h40 z, fun _ => ⟨fun _ => ?_, fun z => ?_⟩⟩, fun z => absurd rfl z⟩, fun z => absurd lt1000 z⟩
            · rw [nI_1]
              obtain ⟨F1, S1⟩ := S.adv hk hp
              exact h _ F1 S1
            · exact absurd (nI_lt (b := 9) (by omega) (by omega)) z
          have rGo : ∀ {L : Nat} {SS : List (Nat × Nat)} {M : am_I} {N : am_N} {post : Int32 → am_I → am_N → Prop}, RSt t n p o SS M → (∀ M1, FrQ M M1 → RSt t n (nxT t n p) (o + 1) SS M1 → rcM L 3 M1 N (fun zr9 zM10 zN11 => ((zr9 = 0 → post 0 zM10 zN11) ∧ (¬ zr9 = 0 → w_X12_takesSign 41 zM10 zN11 (fun zr12 zM13 zN14 => ((¬ zr12 = 0 → post 1 (am_u zM13 (3, 0, 0) 50 ((zM13 (3, 0, 0) 50) - 1)) zN14) ∧ (zr12 = 0 → post 0 zM13 zN14))))))) → w_X12_atomO (rcM L) M N post := by
            intro L SS M N post S h
            refine rBeg S (fun z => absurd h40 z) (fun _ M1 F1 S1 e49 => ?_)
            refine q_opens S1 ho (fun _ M2 F2 e2 _ S2 => ⟨fun _ => ?_, fun z => absurd z (by decide)⟩) (fun z => by omega)
            have F3 : FrA M2 (am_u M2 (3, 0, 0) 49 (M2 (3, 0, 0) 49 + 1)) := FrA.u (Or.inl rfl)
            refine h _ ((F1.tr F2).tr (FrQ.ofA F3)) (S2.adv hk hp F3 ?_)
            rw [am_u_c, pk_us, e2, e49, nI_1, enT_sg (s := 40) S.r hk (by decide) h40]
          cases ok1 with
          | false =>
            refine ⟨false, q1, [], A.tk, by omega, fun z => (nomatch z), fun z => (nomatch z), ?_, ?_⟩
            · intro L hL CC M N post S hroom hpost
              obtain ⟨L', rfl⟩ : ∃ L', L = L' + 1 := ⟨L - 1, by omega⟩
              rw [rcR_3]
              refine cBeg S (fun M1 F1 S1 => ?_)
              exact A.cl L' (by omega) CC M1 N _ S1 (by omega) (fun M2 F2 _ C => ⟨fun _ => hpost M2 (F1.tr F2) (fun z => (nomatch z)) C, fun z => absurd rfl z⟩)
            · intro L hL SS M N post S hroom hpost
              obtain ⟨L', rfl⟩ : ∃ L', L = L' + 1 := ⟨L - 1, by omega⟩
              rw [rcM_5]
              refine rGo S (fun M1 F1 S1 => ?_)
              exact A.rf L' (by omega) SS M1 N _ S1 (by omega) (fun M2 F2 P2 _ h2 => ⟨fun _ => hpost M2 (F1.tr F2) P2 (fun z => (nomatch z)) (fun _ => h2 rfl), fun z => absurd rfl z⟩)
          | true =>
            have aln := A.ln rfl
            by_cases h41 : tokV t n q1 = nI 41
            · have hp2 : q1 < n := tk_pos2 h41 (by omega) (by omega)
              obtain ⟨_, k2, c2, _⟩ := nx_sp A.tk hp2
              have hq2 := cs_mono (t := t) k2.1
              refine ⟨true, nxT t n q1, E1, k2, by omega, fun _ => by omega, fun _ => A.ty rfl, ?_, ?_⟩
              · intro L hL CC M N post S hroom hpost
                obtain ⟨L', rfl⟩ : ∃ L', L = L' + 1 := ⟨L - 1, by omega⟩
                rw [rcR_3]
                refine cBeg S (fun M1 F1 S1 => ?_)
                refine A.cl L' (by omega) CC M1 N _ S1 (by omega) (fun M2 F2 S2 _ => ⟨fun z => absurd z (by decide), fun _ => ?_⟩)
                exact c_accept (S2 rfl) hn A.tk (fun _ M3 F3 S3 => ⟨fun z => absurd z (by decide), fun _ => hpost M3 ((F1.tr F2).tr F3) (fun _ => S3 hp2) ((S3 hp2).fl (by rw [List.length_append, List.length_map]; omega))⟩) (fun z => absurd h41 z)
              · intro L hL SS M N post S hroom hpost
                obtain ⟨L', rfl⟩ : ∃ L', L = L' + 1 := ⟨L - 1, by omega⟩
                rw [rcM_5]
                refine rGo S (fun M1 F1 S1 => ?_)
                refine A.rf L' (by omega) SS M1 N _ S1 (by omega) (fun M2 F2 P2 S2 _ => ⟨fun z => absurd z (by decide), fun _ => ?_⟩)
                refine q_sign (s := 41) (S2 rfl) A.tk (by decide) (by decide) (fun _ _ M3 F3 S3 => ⟨fun _ => ?_, fun z => absurd z (by decide)⟩) (fun z => absurd h41 z)
                obtain ⟨F4, S4⟩ := S3.shut
                exact hpost _ (((F1.tr F2).tr (FrQ.ofA F3)).tr F4) S4.l.pre (fun _ => S4) (fun z => (nomatch z))
            · refine ⟨false, q1, [], A.tk, by omega, fun z => (nomatch z), fun z => (nomatch z), ?_, ?_⟩
              · intro L hL CC M N post S hroom hpost
                obtain ⟨L', rfl⟩ : ∃ L', L = L' + 1 := ⟨L - 1, by omega⟩
                rw [rcR_3]
                refine cBeg S (fun M1 F1 S1 => ?_)
                refine A.cl L' (by omega) CC M1 N _ S1 (by omega) (fun M2 F2 S2 C => ⟨fun z => absurd z (by decide), fun _ => ?_⟩)
                exact c_accept (S2 rfl) hn A.tk (fun z => absurd z h41) (fun _ => ⟨fun _ => hpost M2 (F1.tr F2) (fun z => (nomatch z)) C, fun z => absurd rfl z⟩)
              · intro L hL SS M N post S hroom hpost
                obtain ⟨L', rfl⟩ : ∃ L', L = L' + 1 := ⟨L - 1, by omega⟩
                rw [rcM_5]
                refine rGo S (fun M1 F1 S1 => ?_)
                refine A.rf L' (by omega) SS M1 N _ S1 (by omega) (fun M2 F2 P2 S2 _ => ⟨fun z => absurd z (by decide), fun _ => ?_⟩)
                exact q_sign (s := 41) (S2 rfl) A.tk (by decide) (by decide) (fun z => absurd z h41) (fun _ M3 F3 S3 e3 => ⟨fun z => absurd rfl z, fun _ => hpost M3 ((F1.tr F2).tr (FrQ.ofA F3)) S3.l.pre (fun z => (nomatch z)) (fun _ => e3)⟩)
      · refine ⟨false, p, [], hk, Nat.le_refl _, fun z => (nomatch z), fun z => (nomatch z), ?_, ?_⟩
        · intro L hL CC M N post S hroom hpost
          obtain ⟨L', rfl⟩ : ∃ L', L = L' + 1 := ⟨L - 1, by omega⟩
          rw [rcR_3]
          unfold w_X7_readAtomO
          exact c_here S.k hn S.c hk ⟨fun _ => notw ⟨fun _ => ⟨fun _ => hpost M FrP1.rf (fun z => (nomatch z)) (S.fl (by omega)), fun z => absurd z h40⟩, fun z => absurd rfl z⟩, fun z => absurd lt1000 z⟩
        · intro L hL SS M N post S hroom hpost
          obtain ⟨L', rfl⟩ : ∃ L', L = L' + 1 := ⟨L - 1, by omega⟩
          rw [rcM_5]
          have hno : ∀ a, a < 8 → ¬ tokV t n p = nI (9 + a) := fun a ha z => hw ⟨a, ha, z⟩
          refine rBeg S (fun _ M1 F1 S1 e49 => ?_) (fun z => absurd z h40)
          exact r_at96 S1 e49 hk (Or.inr hno) (fun a ha z => absurd z (hno a ha)) (fun _ M2 F2 S2 e2 => hpost M2 (F1.tr F2) S2.l (fun z => (nomatch z)) (fun _ => e2))
end AT
