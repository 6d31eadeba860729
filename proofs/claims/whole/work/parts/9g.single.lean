/-! ===== the two parsers, step by step: single conditions, all of it ===== -/
section SG
variable {t : Nat → Nat} {n o p q d L0 : Nat} {M M1 : am_I} {N : am_N}
theorem tok_g1 {k : Nat} (hk : TK t n p) (h1 : 1 ≤ k) (h2 : k < 17) (et : tokV t n p = nI k) : grp (t p) = 1 := by
  have hp : p < n := tk_pos2 et (by omega) (by omega)
  rcases tok_cases hk with ⟨h, _⟩ | ⟨_, _, s, v⟩ | ⟨_, g, _, _⟩ | ⟨_, _, _, v, b⟩ | ⟨_, v, _⟩
  · omega
  · rw [v] at et
    have h3 := (sg_b s).1
    have h4 := (nI_eq (by omega) (by omega)).mp et
    rw [h4] at s
    have h5 : ∀ a, a < 17 → ¬ sgB a = true := by decide
    exact absurd s (h5 k h2)
  · exact g
  · rw [v] at et
    have := (nI_eq (by omega) (by omega)).mp et
    omega
  · rw [v] at et
    exact absurd et.symm (fun z => absurd (show (0 : Int32) ≤ -1 by rw [← z]; exact nI_le (a := 0) (by omega) (by omega)) (by decide))
theorem LK_single {D d1 : Nat} (hn : n ≤ 500) (ho : o ≤ 9) (hd1 : d + 1 ≤ D) (hd2 : d1 ≤ D) (hE : LKA t n o 2 3 false d L0) (hA : o < 9 → LKA t n (o + 1) 0 0 true d1 L0) (hS : o < 9 → LKA t n (o + 1) 1 2 true d1 L0) : LKA t n o 1 2 true D (L0 + 1) := by
  intro p hk
  have hpn := cs_mono (t := t) hk.1
  have rBeg : ∀ {L : Nat} {SS : List (Nat × Nat)} {M : am_I} {N : am_N} {post : Int32 → am_I → am_N → Prop}, RSt t n p o SS M → (tokV t n p = nI 8 → ∀ M1, FrQ M M1 → RSt t n p o SS M1 → M1 (3, 0, 0) 49 = nI p → M1 (3, 0, 0) 63 = nI (enT t n p) → w_X12_opens M1 N (fun zr13 zM14 zN15 => ((¬ zr13 = 0 → rcM L 2 (am_u zM14 (3, 0, 0) 49 (zM14 (3, 0, 0) 63)) zN15 (fun zr16 zM17 zN18 => ((¬ zr16 = 0 → w_X12_puts 11 0 (am_u zM17 (3, 0, 0) 50 ((zM17 (3, 0, 0) 50) - 1)) zN18 (fun zM19 zN20 => post 1 zM19 zN20)) ∧ (zr16 = 0 → post 0 zM17 zN18)))) ∧ (zr13 = 0 → post 0 zM14 zN15)))) → (tokV t n p = nI 91 → ∀ M1, FrQ M M1 → RSt t n p o SS M1 → M1 (3, 0, 0) 49 = nI p → w_X12_opens M1 N (fun zr4 zM5 zN6 => ((¬ zr4 = 0 → rcM L 0 (am_u zM5 (3, 0, 0) 49 ((zM5 (3, 0, 0) 49) + 1)) zN6 (fun zr7 zM8 zN9 => ((zr7 = 0 → post 0 zM8 zN9) ∧ (¬ zr7 = 0 → w_X12_takesSign 93 zM8 zN9 (fun zr10 zM11 zN12 => ((¬ zr10 = 0 → post 1 (am_u zM11 (3, 0, 0) 50 ((zM11 (3, 0, 0) 50) - 1)) zN12) ∧ (zr10 = 0 → post 0 zM11 zN12))))))) ∧ (zr4 = 0 → post 0 zM5 zN6)))) → (¬ tokV t n p = nI 8 → ¬ tokV t n p = nI 91 → ∀ M1, FrQ M M1 → RSt t n p o SS M1 → w_X12_singleO_p130 (rcM L) post M1 N) → w_X12_singleO (rcM L) M N post := by
    intro L SS M N post S h8 h91 h0
    unfold w_X12_singleO
    obtain ⟨a, ea, hb⟩ := S.a
    refine r_word S.r ea hb (fun M1 F1 e49 e63 => ?_)
    have S1 := S.same F1 hk e49
    have tw : tokV t n p = nI 8 ↔ wVal t n p = WC 8 := tok_word S.r hk (by omega) (by omega)
    have q8 : lN (wVal t n p) = 7237492 ↔ wVal t n p = WC 8 := lN_eqI (y := WC 8) (wVal_lt S.r hk.1) (by decide)
    rw [q8]
    refine ⟨fun z => ?_, fun z => h8 (tw.mpr z) M1 (FrQ.ofA F1) S1 e49 (by rw [e63, wE_en (tok_g1 (k := 8) hk (by decide) (by decide) (tw.mpr z))])⟩
    exact r_peek (s := 91) S1.r e49 hk (by decide) (fun z2 => h0 (fun w => z (tw.mp w)) z2 M1 (FrQ.ofA F1) S1) (fun z2 => h91 z2 M1 (FrQ.ofA F1) S1 e49)
  by_cases h8 : tokV t n p = nI 8
  · have n91 : ¬ tokV t n p = nI 91 := fun z => absurd (h8.symm.trans z) (by decide)
    have hp : p < n := tk_pos2 h8 (by omega) (by omega)
    obtain ⟨_, k1, c1, _⟩ := nx_sp hk hp
    have hqn := cs_mono (t := t) k1.1
    by_cases h9 : o = 9
    · refine ⟨false, p, [], hk, Nat.le_refl _, fun z => (nomatch z), fun z => (nomatch z), ?_, ?_⟩
      · intro L hL CC M N post S hroom hpost
        obtain ⟨L', rfl⟩ : ∃ L', L = L' + 1 := ⟨L - 1, by omega⟩
        rw [rcR_1]
        unfold w_X7_readOneO
        refine c_here S.k hn S.c hk ⟨fun _ => ?_, fun z => absurd h8 z⟩
        unfold w_X7_readOneO_p17
        exact ⟨fun z => absurd z (nI_nlt (b := 9) (by omega) (by omega)), fun _ => hpost M FrP1.rf (fun z => (nomatch z)) (S.fl (by omega))⟩
      · intro L hL SS M N post S hroom hpost
        obtain ⟨L', rfl⟩ : ∃ L', L = L' + 1 := ⟨L - 1, by omega⟩
        rw [rcM_2]
        refine rBeg S (fun _ M1 F1 S1 e49 _ => ?_) (fun z => absurd z n91) (fun z => absurd h8 z)
        exact q_opens S1 ho (fun z => by omega) (fun _ => ⟨fun z => absurd rfl z, fun _ => hpost M1 F1 S1.l (fun z => (nomatch z)) (fun _ => e49)⟩)
    · obtain ⟨ok1, q1, E1, A⟩ := hS (by omega) _ k1
      have hq1 := cs_mono (t := t) A.tk.1
      have amo := A.mo
      have cBeg : ∀ {L : Nat} {CC : List Int32} {M : am_I} {N : am_N} {post : Int32 → am_I → am_N → Prop}, CSt t n p CC M → (∀ M1, FrP1 M M1 → CSt t n (nxT t n p) CC M1 → rcR L 1 (nI (o + 1)) M1 N (fun zr1 zM2 zN3 => w_X7_emit (-8) zM2 zN3 (fun zM4 zN5 => (zr1 = 0 ∨ zr1 = 1) ∧ post zr1 zM4 zN5))) → w_X7_readOneO (rcR L) (nI o) M N post := by
        intro L CC M N post S h
        unfold w_X7_readOneO
        refine c_here S.k hn S.c hk ⟨fun _ => ?_, fun z => absurd h8 z⟩
        unfold w_X7_readOneO_p17
        refine ⟨fun _ => ⟨fun _ => ?_, fun z => absurd z n91⟩, fun z => absurd (nI_lt (b := 9) (by omega) (by omega)) z⟩
        rw [nI_1]
        obtain ⟨F1, S1⟩ := S.adv hk hp
        exact h _ F1 S1
      have rGo : ∀ {L : Nat} {SS : List (Nat × Nat)} {M : am_I} {N : am_N} {post : Int32 → am_I → am_N → Prop}, RSt t n p o SS M → (∀ M1, FrQ M M1 → RSt t n (nxT t n p) (o + 1) SS M1 → rcM L 2 M1 N (fun zr16 zM17 zN18 => ((¬ zr16 = 0 → w_X12_puts 11 0 (am_u zM17 (3, 0, 0) 50 ((zM17 (3, 0, 0) 50) - 1)) zN18 (fun zM19 zN20 => post 1 zM19 zN20)) ∧ (zr16 = 0 → post 0 zM17 zN18)))) → w_X12_singleO (rcM L) M N post := by
        intro L SS M N post S h
        refine rBeg S (fun _ M1 F1 S1 e49 e63 => ?_) (fun z => absurd z n91) (fun z => absurd h8 z)
        refine q_opens S1 ho (fun _ M2 F2 _ e2 S2 => ⟨fun _ => ?_, fun z => absurd z (by decide)⟩) (fun z => by omega)
        have F3 : FrA M2 (am_u M2 (3, 0, 0) 49 (M2 (3, 0, 0) 63)) := FrA.u (Or.inl rfl)
        refine h _ ((F1.tr F2).tr (FrQ.ofA F3)) (S2.adv hk hp F3 ?_)
        rw [am_u_c, pk_us, e2, e63]
      cases ok1 with
      | false =>
        refine ⟨false, q1, [], A.tk, by omega, fun z => (nomatch z), fun z => (nomatch z), ?_, ?_⟩
        · intro L hL CC M N post S hroom hpost
          obtain ⟨L', rfl⟩ : ∃ L', L = L' + 1 := ⟨L - 1, by omega⟩
          rw [rcR_1]
          refine cBeg S (fun M1 F1 S1 => ?_)
          exact A.cl L' (by omega) CC M1 N _ S1 (by omega) (fun M2 F2 _ C => c_emitF C (fun M3 F3 C3 => ⟨Or.inl rfl, hpost M3 ((F1.tr F2).tr F3) (fun z => (nomatch z)) C3⟩))
        · intro L hL SS M N post S hroom hpost
          obtain ⟨L', rfl⟩ : ∃ L', L = L' + 1 := ⟨L - 1, by omega⟩
          rw [rcM_2]
          refine rGo S (fun M1 F1 S1 => ?_)
          exact A.rf L' (by omega) SS M1 N _ S1 (by omega) (fun M2 F2 P2 _ h2 => ⟨fun z => absurd rfl z, fun _ => hpost M2 (F1.tr F2) P2 (fun z => (nomatch z)) (fun _ => h2 rfl)⟩)
      | true =>
        have aln := A.ln rfl
        refine ⟨true, q1, E1 ++ [(11, 0)], A.tk, by omega, fun _ => by rw [List.length_append, List.length_singleton]; omega, fun _ τ c hc => ?_, ?_, ?_⟩
        · rw [tyR_app E1 _ _ _ (A.ty rfl τ c (by omega))]
          exact tyR_one rfl (by rw [List.length_cons]; omega)
        · intro L hL CC M N post S hroom hpost
          obtain ⟨L', rfl⟩ : ∃ L', L = L' + 1 := ⟨L - 1, by omega⟩
          rw [rcR_1]
          refine cBeg S (fun M1 F1 S1 => ?_)
          have ll : (CC ++ E1.map enc).length = CC.length + E1.length := by rw [List.length_append, List.length_map]
          refine A.cl L' (by omega) CC M1 N _ S1 (by omega) (fun M2 F2 S2 _ => c_emit (S2 rfl) (by omega) (fun M3 F3 S3 => ⟨Or.inr rfl, hpost M3 ((F1.tr F2).tr F3) (fun _ => ?_) (S3.fl (by rw [List.length_append, ll, List.length_singleton]; omega))⟩))
          rw [List.map_append, ← List.append_assoc]
          exact S3
        · intro L hL SS M N post S hroom hpost
          obtain ⟨L', rfl⟩ : ∃ L', L = L' + 1 := ⟨L - 1, by omega⟩
          rw [rcM_2]
          refine rGo S (fun M1 F1 S1 => ?_)
          have ll : (SS ++ E1).length = SS.length + E1.length := List.length_append
          refine A.rf L' (by omega) SS M1 N _ S1 (by omega) (fun M2 F2 P2 S2 _ => ⟨fun _ => ?_, fun z => absurd z (by decide)⟩)
          obtain ⟨F3, S3⟩ := (S2 rfl).shut
          refine q_puts (w := 11) (x := 0) S3 (by omega) (fun M4 F4 S4 => hpost M4 (((F1.tr F2).tr F3).tr F4) S4.l.pre.pre (fun _ => ?_) (fun z => (nomatch z)))
          rw [← List.append_assoc]
          exact S4
  · by_cases h91 : tokV t n p = nI 91
    · have hp : p < n := tk_pos2 h91 (by omega) (by omega)
      obtain ⟨_, k1, c1, _⟩ := nx_sp hk hp
      have hqn := cs_mono (t := t) k1.1
      by_cases h9 : o = 9
      · refine ⟨false, p, [], hk, Nat.le_refl _, fun z => (nomatch z), fun z => (nomatch z), ?_, ?_⟩
        · intro L hL CC M N post S hroom hpost
          obtain ⟨L', rfl⟩ : ∃ L', L = L' + 1 := ⟨L - 1, by omega⟩
          rw [rcR_1]
          unfold w_X7_readOneO
          refine c_here S.k hn S.c hk ⟨fun z => absurd z h8, fun _ => ⟨fun z => absurd h91 z, fun _ => ?_⟩⟩
          unfold w_X7_readOneO_p17
          exact ⟨fun z => absurd z (nI_nlt (b := 9) (by omega) (by omega)), fun _ => hpost M FrP1.rf (fun z => (nomatch z)) (S.fl (by omega))⟩
        · intro L hL SS M N post S hroom hpost
          obtain ⟨L', rfl⟩ : ∃ L', L = L' + 1 := ⟨L - 1, by omega⟩
          rw [rcM_2]
          refine rBeg S (fun z => absurd z h8) (fun _ M1 F1 S1 e49 => ?_) (fun _ z => absurd h91 z)
          exact q_opens S1 ho (fun z => by omega) (fun _ => ⟨fun z => absurd rfl z, fun _ => hpost M1 F1 S1.l (fun z => (nomatch z)) (fun _ => e49)⟩)
      · obtain ⟨ok1, q1, E1, A⟩ := hA (by omega) _ k1
        have hq1 := cs_mono (t := t) A.tk.1
        have amo := A.mo
        have cBeg : ∀ {L : Nat} {CC : List Int32} {M : am_I} {N : am_N} {post : Int32 → am_I → am_N → Prop}, CSt t n p CC M → (∀ M1, FrP1 M M1 → CSt t n (nxT t n p) CC M1 → rcR L 0 (nI (o + 1)) M1 N (fun zr6 zM7 zN8 => ((zr6 = 0 → post 0 zM7 zN8) ∧ (¬ zr6 = 0 → w_X7_accept 93 zM7 zN8 (fun zr9 zM10 zN11 => ((zr9 = 0 → post 0 zM10 zN11) ∧ (¬ zr9 = 0 → post 1 zM10 zN11))))))) → w_X7_readOneO (rcR L) (nI o) M N post := by
          intro L CC M N post S h
          unfold w_X7_readOneO
          refine c_here S.k hn S.c hk ⟨fun z => absurd z h8, fun _ => ⟨fun z => absurd h91 z, fun _ => ?_⟩⟩
          unfold w_X7_readOneO_p17
          refine ⟨fun _ => ⟨fun z => absurd h91 z, fun _ => ?_⟩, fun z => absurd (nI_lt (b := 9) (by omega) (by omega)) z⟩
          rw [nI_1]
          obtain ⟨F1, S1⟩ := S.adv hk hp
          exact h _ F1 S1
        have rGo : ∀ {L : Nat} {SS : List (Nat × Nat)} {M : am_I} {N : am_N} {post : Int32 → am_I → am_N → Prop}, RSt t n p o SS M → (∀ M1, FrQ M M1 → RSt t n (nxT t n p) (o + 1) SS M1 → rcM L 0 M1 N (fun zr7 zM8 zN9 => ((zr7 = 0 → post 0 zM8 zN9) ∧ (¬ zr7 = 0 → w_X12_takesSign 93 zM8 zN9 (fun zr10 zM11 zN12 => ((¬ zr10 = 0 → post 1 (am_u zM11 (3, 0, 0) 50 ((zM11 (3, 0, 0) 50) - 1)) zN12) ∧ (zr10 = 0 → post 0 zM11 zN12))))))) → w_X12_singleO (rcM L) M N post := by
          intro L SS M N post S h
          refine rBeg S (fun z => absurd z h8) (fun _ M1 F1 S1 e49 => ?_) (fun _ z => absurd h91 z)
          refine q_opens S1 ho (fun _ M2 F2 e2 _ S2 => ⟨fun _ => ?_, fun z => absurd z (by decide)⟩) (fun z => by omega)
          have F3 : FrA M2 (am_u M2 (3, 0, 0) 49 (M2 (3, 0, 0) 49 + 1)) := FrA.u (Or.inl rfl)
          refine h _ ((F1.tr F2).tr (FrQ.ofA F3)) (S2.adv hk hp F3 ?_)
          rw [am_u_c, pk_us, e2, e49, nI_1, enT_sg (s := 91) S.r hk (by decide) h91]
        cases ok1 with
        | false =>
          refine ⟨false, q1, [], A.tk, by omega, fun z => (nomatch z), fun z => (nomatch z), ?_, ?_⟩
          · intro L hL CC M N post S hroom hpost
            obtain ⟨L', rfl⟩ : ∃ L', L = L' + 1 := ⟨L - 1, by omega⟩
            rw [rcR_1]
            refine cBeg S (fun M1 F1 S1 => ?_)
            exact A.cl L' (by omega) CC M1 N _ S1 (by omega) (fun M2 F2 _ C => ⟨fun _ => hpost M2 (F1.tr F2) (fun z => (nomatch z)) C, fun z => absurd rfl z⟩)
          · intro L hL SS M N post S hroom hpost
            obtain ⟨L', rfl⟩ : ∃ L', L = L' + 1 := ⟨L - 1, by omega⟩
            rw [rcM_2]
            refine rGo S (fun M1 F1 S1 => ?_)
            exact A.rf L' (by omega) SS M1 N _ S1 (by omega) (fun M2 F2 P2 _ h2 => ⟨fun _ => hpost M2 (F1.tr F2) P2 (fun z => (nomatch z)) (fun _ => h2 rfl), fun z => absurd rfl z⟩)
        | true =>
          have aln := A.ln rfl
          by_cases h93 : tokV t n q1 = nI 93
          · have hp2 : q1 < n := tk_pos2 h93 (by omega) (by omega)
            obtain ⟨_, k2, c2, _⟩ := nx_sp A.tk hp2
            have hq2 := cs_mono (t := t) k2.1
            refine ⟨true, nxT t n q1, E1, k2, by omega, fun _ => by omega, fun _ τ c hc => A.ty rfl τ c (by omega), ?_, ?_⟩
            · intro L hL CC M N post S hroom hpost
              obtain ⟨L', rfl⟩ : ∃ L', L = L' + 1 := ⟨L - 1, by omega⟩
              rw [rcR_1]
              refine cBeg S (fun M1 F1 S1 => ?_)
              refine A.cl L' (by omega) CC M1 N _ S1 (by omega) (fun M2 F2 S2 _ => ⟨fun z => absurd z (by decide), fun _ => ?_⟩)
              exact c_accept (S2 rfl) hn A.tk (fun _ M3 F3 S3 => ⟨fun z => absurd z (by decide), fun _ => hpost M3 ((F1.tr F2).tr F3) (fun _ => S3 hp2) ((S3 hp2).fl (by rw [List.length_append, List.length_map]; omega))⟩) (fun z => absurd h93 z)
            · intro L hL SS M N post S hroom hpost
              obtain ⟨L', rfl⟩ : ∃ L', L = L' + 1 := ⟨L - 1, by omega⟩
              rw [rcM_2]
              refine rGo S (fun M1 F1 S1 => ?_)
              refine A.rf L' (by omega) SS M1 N _ S1 (by omega) (fun M2 F2 P2 S2 _ => ⟨fun z => absurd z (by decide), fun _ => ?_⟩)
              refine q_sign (s := 93) (S2 rfl) A.tk (by decide) (by decide) (fun _ _ M3 F3 S3 => ⟨fun _ => ?_, fun z => absurd z (by decide)⟩) (fun z => absurd h93 z)
              obtain ⟨F4, S4⟩ := S3.shut
              exact hpost _ (((F1.tr F2).tr (FrQ.ofA F3)).tr F4) S4.l.pre (fun _ => S4) (fun z => (nomatch z))
          · refine ⟨false, q1, [], A.tk, by omega, fun z => (nomatch z), fun z => (nomatch z), ?_, ?_⟩
            · intro L hL CC M N post S hroom hpost
              obtain ⟨L', rfl⟩ : ∃ L', L = L' + 1 := ⟨L - 1, by omega⟩
              rw [rcR_1]
              refine cBeg S (fun M1 F1 S1 => ?_)
              refine A.cl L' (by omega) CC M1 N _ S1 (by omega) (fun M2 F2 S2 C => ⟨fun z => absurd z (by decide), fun _ => ?_⟩)
              exact c_accept (S2 rfl) hn A.tk (fun z => absurd z h93) (fun _ => ⟨fun _ => hpost M2 (F1.tr F2) (fun z => (nomatch z)) C, fun z => absurd rfl z⟩)
            · intro L hL SS M N post S hroom hpost
              obtain ⟨L', rfl⟩ : ∃ L', L = L' + 1 := ⟨L - 1, by omega⟩
              rw [rcM_2]
              refine rGo S (fun M1 F1 S1 => ?_)
              refine A.rf L' (by omega) SS M1 N _ S1 (by omega) (fun M2 F2 P2 S2 _ => ⟨fun z => absurd z (by decide), fun _ => ?_⟩)
              exact q_sign (s := 93) (S2 rfl) A.tk (by decide) (by decide) (fun z => absurd z h93) (fun _ M3 F3 S3 e3 => ⟨fun z => absurd rfl z, fun _ => hpost M3 ((F1.tr F2).tr (FrQ.ofA F3)) S3.l.pre (fun z => (nomatch z)) (fun _ => e3)⟩)
    · obtain ⟨ok1, q1, E1, A⟩ := hE p hk
      have hq1 := cs_mono (t := t) A.tk.1
      have amo := A.mo
      have cBeg : ∀ {L : Nat} {CC : List Int32} {M : am_I} {N : am_N} {post : Int32 → am_I → am_N → Prop}, CSt t n p CC M → (rcR L 2 (nI o) M N (fun zr4 zM5 zN6 => ((¬ zr4 = 0 → w_X7_here zM5 zN6 (fun zr7 zM8 zN9 => ((zr7 = 60 → w_X7_readOneO_p117 (rcR L) post (nI o) zr7 zM8 zN9) ∧ (¬ zr7 = 60 → ((zr7 = 62 → w_X7_readOneO_p117 (rcR L) post (nI o) zr7 zM8 zN9) ∧ (¬ zr7 = 62 → ((zr7 = 61 → w_X7_readOneO_p117 (rcR L) post (nI o) zr7 zM8 zN9) ∧ (¬ zr7 = 61 → post 0 zM8 zN9)))))))) ∧ (zr4 = 0 → post 0 zM5 zN6)))) → w_X7_readOneO (rcR L) (nI o) M N post := by
        intro L CC M N post S h
        unfold w_X7_readOneO
        exact c_here S.k hn S.c hk ⟨fun z => absurd z h8, fun _ => ⟨fun _ => h, fun z => absurd z h91⟩⟩
      have rGo : ∀ {L : Nat} {SS : List (Nat × Nat)} {M : am_I} {N : am_N} {post : Int32 → am_I → am_N → Prop}, RSt t n p o SS M → (∀ M1, FrQ M M1 → RSt t n p o SS M1 → w_X12_singleO_p130 (rcM L) post M1 N) → w_X12_singleO (rcM L) M N post := by
        intro L SS M N post S h
        exact rBeg S (fun z => absurd z h8) (fun z => absurd z h91) (fun _ _ => h)
      cases ok1 with
      | false =>
        refine ⟨false, q1, [], A.tk, by omega, fun z => (nomatch z), fun z => (nomatch z), ?_, ?_⟩
        · intro L hL CC M N post S hroom hpost
          obtain ⟨L', rfl⟩ : ∃ L', L = L' + 1 := ⟨L - 1, by omega⟩
          rw [rcR_1]
          refine cBeg S ?_
          exact A.cl L' (by omega) CC M N _ S (by omega) (fun M2 F2 _ C => ⟨fun z => absurd rfl z, fun _ => hpost M2 F2 (fun z => (nomatch z)) C⟩)
        · intro L hL SS M N post S hroom hpost
          obtain ⟨L', rfl⟩ : ∃ L', L = L' + 1 := ⟨L - 1, by omega⟩
          rw [rcM_2]
          refine rGo S (fun M1 F1 S1 => ?_)
          unfold w_X12_singleO_p130
          exact A.rf L' (by omega) SS M1 N _ S1 (by omega) (fun M2 F2 P2 _ h2 => ⟨fun z => absurd rfl z, fun _ => hpost M2 (F1.tr F2) P2 (fun z => (nomatch z)) (fun _ => h2 rfl)⟩)
      | true =>
        have aln := A.ln rfl
        by_cases hc : ∃ s x, ((s = 60 ∧ x = 6) ∨ (s = 62 ∧ x = 7) ∨ (s = 61 ∧ x = 8)) ∧ tokV t n q1 = nI s
        · obtain ⟨s, x, hs, e⟩ := hc
          have hp2 : q1 < n := tk_pos2 e (by omega) (by omega)
          obtain ⟨_, k2, c2, _⟩ := nx_sp A.tk hp2
          have hq2 := cs_mono (t := t) k2.1
          obtain ⟨ok3, q3, E3, B⟩ := hE _ k2
          have hq3 := cs_mono (t := t) B.tk.1
          have bmo := B.mo
          have cMid : ∀ {L : Nat} {CC : List Int32} {M : am_I} {N : am_N} {post : Int32 → am_I → am_N → Prop}, L0 ≤ L → CSt t n p CC M → CC.length + (cs t n - cs t p) ≤ 548 → (∀ M1, FrP1 M M1 → CSt t n (nxT t n q1) (CC ++ E1.map enc) M1 → rcR L 2 (nI o) M1 N (fun zr1 zM2 zN3 => w_X7_emit (-nI s) zM2 zN3 (fun zM4 zN5 => (zr1 = 0 ∨ zr1 = 1) ∧ post zr1 zM4 zN5))) → w_X7_readOneO (rcR L) (nI o) M N post := by
            intro L CC M N post hL S hroom h
            refine cBeg S ?_
            refine A.cl L hL CC M N _ S (by omega) (fun M2 F2 S2 _ => ⟨fun _ => ?_, fun z => absurd z (by decide)⟩)
            have S2' := S2 rfl
            obtain ⟨F3, S3⟩ := S2'.adv A.tk hp2
            have g := h _ (F2.tr F3) S3
            refine c_here S2'.k hn S2'.c A.tk ?_
            rw [e]
            have gg : w_X7_readOneO_p117 (rcR L) post (nI o) (nI s) M2 N := g
            refine ⟨fun _ => gg, fun z1 => ⟨fun _ => gg, fun z2 => ⟨fun _ => gg, fun z3 => ?_⟩⟩⟩
            rcases hs with ⟨r, _⟩ | ⟨r, _⟩ | ⟨r, _⟩ <;> subst r
            · exact absurd rfl z1
            · exact absurd rfl z2
            · exact absurd rfl z3
          have rMid : ∀ {L : Nat} {SS : List (Nat × Nat)} {M : am_I} {N : am_N} {post : Int32 → am_I → am_N → Prop}, L0 ≤ L → RSt t n p o SS M → SS.length + (cs t n - cs t p) ≤ 6300 → (∀ M1, FrQ M M1 → RSt t n (nxT t n q1) o (SS ++ E1) M1 → rcM L 3 M1 N (fun zr1 zM2 zN3 => ((¬ zr1 = 0 → w_X12_puts (nI x) 0 zM2 zN3 (fun zM4 zN5 => post 1 zM4 zN5)) ∧ (zr1 = 0 → post 0 zM2 zN3)))) → w_X12_singleO (rcM L) M N post := by
            intro L SS M N post hL S hroom h
            refine rGo S (fun M1 F1 S1 => ?_)
            unfold w_X12_singleO_p130
            refine A.rf L hL SS M1 N _ S1 (by omega) (fun M2 F2 P2 S2 _ => ⟨fun _ => ?_, fun z => absurd z (by decide)⟩)
            have S2' := S2 rfl
            rcases hs with ⟨r, r2⟩ | ⟨r, r2⟩ | ⟨r, r2⟩ <;> subst r <;> subst r2
            · refine q_sign (s := 60) S2' A.tk (by decide) (by decide) (fun _ _ M3 F3 S3 => ⟨fun z => absurd z (by decide), fun _ => ?_⟩) (fun z => absurd e z)
              unfold w_X12_singleO_p182
              exact ⟨fun z => absurd z (by decide), fun _ => h M3 ((F1.tr F2).tr (FrQ.ofA F3)) S3⟩
            · refine q_sign (s := 60) S2' A.tk (by decide) (by decide) (fun z => absurd (e.symm.trans z) (by decide)) (fun _ M3 F3 S3 _ => ⟨fun _ => ?_, fun z => absurd rfl z⟩)
              refine q_sign (s := 62) S3 A.tk (by decide) (by decide) (fun _ _ M4 F4 S4 => ⟨fun z => absurd z (by decide), fun _ => ?_⟩) (fun z => absurd e z)
              unfold w_X12_singleO_p182
              exact ⟨fun z => absurd z (by decide), fun _ => h M4 ((F1.tr F2).tr ((FrQ.ofA F3).tr (FrQ.ofA F4))) S4⟩
            · refine q_sign (s := 60) S2' A.tk (by decide) (by decide) (fun z => absurd (e.symm.trans z) (by decide)) (fun _ M3 F3 S3 _ => ⟨fun _ => ?_, fun z => absurd rfl z⟩)
              refine q_sign (s := 62) S3 A.tk (by decide) (by decide) (fun z => absurd (e.symm.trans z) (by decide)) (fun _ M4 F4 S4 _ => ⟨fun _ => ?_, fun z => absurd rfl z⟩)
              refine q_sign (s := 61) S4 A.tk (by decide) (by decide) (fun _ _ M5 F5 S5 => ⟨fun z => absurd z (by decide), fun _ => ?_⟩) (fun z => absurd e z)
              unfold w_X12_singleO_p182
              exact ⟨fun z => absurd z (by decide), fun _ => h M5 ((F1.tr F2).tr ((FrQ.ofA F3).tr ((FrQ.ofA F4).tr (FrQ.ofA F5)))) S5⟩
          cases ok3 with
          | false =>
            refine ⟨false, q3, [], B.tk, by omega, fun z => (nomatch z), fun z => (nomatch z), ?_, ?_⟩
            · intro L hL CC M N post S hroom hpost
              obtain ⟨L', rfl⟩ : ∃ L', L = L' + 1 := ⟨L - 1, by omega⟩
              rw [rcR_1]
              refine cMid (by omega) S hroom (fun M1 F1 S1 => ?_)
              have ll : (CC ++ E1.map enc).length = CC.length + E1.length := by rw [List.length_append, List.length_map]
              exact B.cl L' (by omega) _ M1 N _ S1 (by omega) (fun M2 F2 _ C => c_emitF C (fun M3 F3 C3 => ⟨Or.inl rfl, hpost M3 ((F1.tr F2).tr F3) (fun z => (nomatch z)) C3⟩))
            · intro L hL SS M N post S hroom hpost
              obtain ⟨L', rfl⟩ : ∃ L', L = L' + 1 := ⟨L - 1, by omega⟩
              rw [rcM_2]
              refine rMid (by omega) S hroom (fun M1 F1 S1 => ?_)
              have ll : (SS ++ E1).length = SS.length + E1.length := List.length_append
              exact B.rf L' (by omega) _ M1 N _ S1 (by omega) (fun M2 F2 P2 _ h2 => ⟨fun z => absurd rfl z, fun _ => hpost M2 (F1.tr F2) P2.pre (fun z => (nomatch z)) (fun _ => h2 rfl)⟩)
          | true =>
            have bln := B.ln rfl
            refine ⟨true, q3, E1 ++ (E3 ++ [(x, 0)]), B.tk, by omega, fun _ => ?_, fun _ τ c hcc => ?_, ?_, ?_⟩
            · rw [List.length_append, List.length_append, List.length_singleton]; omega
            · rw [tyR_app E1 _ _ _ (A.ty rfl τ c (by omega)), tyR_app E3 _ _ _ (B.ty rfl _ c (by rw [List.length_cons]; omega))]
              refine tyR_one ?_ (by rw [List.length_cons]; omega)
              rcases hs with ⟨_, r2⟩ | ⟨_, r2⟩ | ⟨_, r2⟩ <;> subst r2 <;> rfl
            · intro L hL CC M N post S hroom hpost
              obtain ⟨L', rfl⟩ : ∃ L', L = L' + 1 := ⟨L - 1, by omega⟩
              rw [rcR_1]
              refine cMid (by omega) S hroom (fun M1 F1 S1 => ?_)
              have ll : (CC ++ E1.map enc).length = CC.length + E1.length := by rw [List.length_append, List.length_map]
              have ll3 : (CC ++ E1.map enc ++ E3.map enc).length = CC.length + E1.length + E3.length := by rw [List.length_append, ll, List.length_map]
              refine B.cl L' (by omega) _ M1 N _ S1 (by omega) (fun M2 F2 S2 _ => c_emit (S2 rfl) (by omega) (fun M3 F3 S3 => ⟨Or.inr rfl, hpost M3 ((F1.tr F2).tr F3) (fun _ => ?_) (S3.fl (by rw [List.length_append, ll3, List.length_singleton]; omega))⟩))
              have e2 : enc (x, 0) = -nI s := by rcases hs with ⟨r1, r2⟩ | ⟨r1, r2⟩ | ⟨r1, r2⟩ <;> subst r1 <;> subst r2 <;> rfl
              rw [List.map_append, List.map_append, ← List.append_assoc, ← List.append_assoc, List.map_singleton, e2]
              exact S3
            · intro L hL SS M N post S hroom hpost
              obtain ⟨L', rfl⟩ : ∃ L', L = L' + 1 := ⟨L - 1, by omega⟩
              rw [rcM_2]
              refine rMid (by omega) S hroom (fun M1 F1 S1 => ?_)
              have ll : (SS ++ E1).length = SS.length + E1.length := List.length_append
              have ll3 : (SS ++ E1 ++ E3).length = SS.length + E1.length + E3.length := by rw [List.length_append, ll]
              refine B.rf L' (by omega) _ M1 N _ S1 (by omega) (fun M2 F2 P2 S2 _ => ⟨fun _ => ?_, fun z => absurd z (by decide)⟩)
              refine q_puts (w := x) (x := 0) (S2 rfl) (by omega) (fun M4 F4 S4 => hpost M4 ((F1.tr F2).tr F4) S4.l.pre.pre.pre (fun _ => ?_) (fun z => (nomatch z)))
              rw [← List.append_assoc, ← List.append_assoc]
              exact S4
        · have n60 : ¬ tokV t n q1 = nI 60 := fun z => hc ⟨60, 6, Or.inl ⟨rfl, rfl⟩, z⟩
          have n62 : ¬ tokV t n q1 = nI 62 := fun z => hc ⟨62, 7, Or.inr (Or.inl ⟨rfl, rfl⟩), z⟩
          have n61 : ¬ tokV t n q1 = nI 61 := fun z => hc ⟨61, 8, Or.inr (Or.inr ⟨rfl, rfl⟩), z⟩
          refine ⟨false, q1, [], A.tk, by omega, fun z => (nomatch z), fun z => (nomatch z), ?_, ?_⟩
          · intro L hL CC M N post S hroom hpost
            obtain ⟨L', rfl⟩ : ∃ L', L = L' + 1 := ⟨L - 1, by omega⟩
            rw [rcR_1]
            refine cBeg S ?_
            refine A.cl L' (by omega) CC M N _ S (by omega) (fun M2 F2 S2 C => ⟨fun _ => ?_, fun z => absurd z (by decide)⟩)
            have S2' := S2 rfl
            exact c_here S2'.k hn S2'.c A.tk ⟨fun z => absurd z n60, fun _ => ⟨fun z => absurd z n62, fun _ => ⟨fun z => absurd z n61, fun _ => hpost M2 F2 (fun z => (nomatch z)) C⟩⟩⟩
          · intro L hL SS M N post S hroom hpost
            obtain ⟨L', rfl⟩ : ∃ L', L = L' + 1 := ⟨L - 1, by omega⟩
            rw [rcM_2]
            refine rGo S (fun M1 F1 S1 => ?_)
            unfold w_X12_singleO_p130
            refine A.rf L' (by omega) SS M1 N _ S1 (by omega) (fun M2 F2 P2 S2 _ => ⟨fun _ => ?_, fun z => absurd z (by decide)⟩)
            refine q_sign (s := 60) (S2 rfl) A.tk (by decide) (by decide) (fun z => absurd z n60) (fun _ M3 F3 S3 _ => ⟨fun _ => ?_, fun z => absurd rfl z⟩)
            refine q_sign (s := 62) S3 A.tk (by decide) (by decide) (fun z => absurd z n62) (fun _ M4 F4 S4 _ => ⟨fun _ => ?_, fun z => absurd rfl z⟩)
            refine q_sign (s := 61) S4 A.tk (by decide) (by decide) (fun z => absurd z n61) (fun _ M5 F5 S5 e5 => ⟨fun _ => ?_, fun z => absurd rfl z⟩)
            unfold w_X12_singleO_p182
            exact ⟨fun _ => hpost M5 ((F1.tr F2).tr ((FrQ.ofA F3).tr ((FrQ.ofA F4).tr (FrQ.ofA F5)))) S5.l.pre (fun z => (nomatch z)) (fun _ => e5), fun z => absurd rfl z⟩
/-- all levels -/
theorem LK_exAll (hn : n ≤ 500) : ∀ k o, o + k = 9 → LKA t n o 2 3 false (3 + 2 * k) (3 + 3 * k)
  | 0, o, h => LK_ex hn (LK_atom hn (by omega) (by omega) (fun z => by omega))
  | k + 1, o, h => by
    have h1 := LK_exAll hn k (o + 1) (by omega)
    have h2 := LK_ex hn (LK_atom hn (by omega) (by omega) (fun _ => h1))
    rw [show 3 + 2 * k + 2 = 3 + 2 * (k + 1) by omega, show 3 + 3 * k + 1 + 2 = 3 + 3 * (k + 1) by omega] at h2
    exact h2
theorem LKA.mono {kc km d1 L1 : Nat} {b : Bool} (h : LKA t n o kc km b d L0) (hd : d ≤ d1) (hL : L0 ≤ L1) : LKA t n o kc km b d1 L1 := fun p hk => by
  obtain ⟨ok, q, E, A⟩ := h p hk
  exact ⟨ok, q, E, A.tk, A.mo, A.ln, fun z τ c hc => A.ty z τ c (by omega), fun L hL => A.cl L (by omega), fun L hL => A.rf L (by omega)⟩
theorem LK_sgAll (hn : n ≤ 500) : ∀ k o, o + k = 9 → LKA t n o 1 2 true (4 + 2 * k) (4 + 3 * k)
  | 0, o, h => LK_single (d1 := 0) hn (by omega) (Nat.le_refl _) (by omega) (LK_exAll hn 0 o h) (fun z => by omega) (fun z => by omega)
  | k + 1, o, h => by
    have h1 := LK_sgAll hn k (o + 1) (by omega)
    have h2 := LK_any hn h1
    have h3 := LK_exAll (t := t) hn (k + 1) o (by omega)
    have h4 := LK_single (D := 4 + 2 * (k + 1)) (d1 := 4 + 2 * k + 2) hn (by omega) (by omega) (by omega) h3 (fun _ => h2.mono (Nat.le_refl _) (by omega)) (fun _ => h1.mono (by omega) (by omega))
    exact h4.mono (Nat.le_refl _) (by omega)
theorem LK_sum0 (hn : n ≤ 500) : LKA t n 0 2 3 false 21 40 := (LK_exAll hn 9 0 rfl).mono (by omega) (by omega)
theorem LK_any0 (hn : n ≤ 500) : LKA t n 0 0 0 true 24 40 := (LK_any hn (LK_sgAll hn 9 0 rfl)).mono (by omega) (by omega)
end SG
