/-! ===== the two parsers' states ===== -/
section RN
variable {t : Nat → Nat} {n p a k : Nat} {M M1 M2 : am_I} {N : am_N} {post : am_I → am_N → Prop} {postI : Int32 → am_I → am_N → Prop} {postL : Int64 → am_I → am_N → Prop}
theorem r_takesNumber (R : RT t n M) (ha : M (3, 0, 0) 49 = nI a) (hb : NB t n a p) (hk : TK t n p) (h1 : ∀ m, m < 100000 → tokV t n p = nI (1000 + m) → p < n → ∀ M1, FrA M M1 → M1 (3, 0, 0) 49 = nI (enT t n p) → M1 (3, 0, 0) 64 = nI m → postI 1 M1 N) (h0 : tokV t n p < 1000 → ∀ M1, FrA M M1 → M1 (3, 0, 0) 49 = nI p → postI 0 M1 N) : w_X12_takesNumber M N postI := by
  have hn := R.b
  have hpn := hk.1
  obtain ⟨d1, d2, d3, d4⟩ := runE_sp (t := t) (n := n) (g := 2) (n - p) p (by omega)
  generalize hE : runE t n 2 (n - p) p = e at d1 d2 d3 d4
  unfold w_X12_takesNumber
  refine r_blanks R ha hb (fun v ev => ?_)
  have F1 : FrA M (am_u M (3, 0, 0) 49 (nI p)) := FrA.u (Or.inl rfl)
  have e49 : am_u M (3, 0, 0) 49 (nI p) (3, 0, 0) 49 = nI p := by rw [am_u_c, pk_us]
  rw [e49] at ev
  subst ev
  have R1 := R.cg F1
  generalize hM1 : am_u M (3, 0, 0) 49 (nI p) = M1 at R1 F1 e49
  have f48 : ∀ x, am_u M1 (3, 0, 0) 64 x (3, 0, 0) 48 = nI n := fun x => by rw [am_u_c, pk_un (by decide)]; exact R1.s
  have f49 : ∀ x, am_u M1 (3, 0, 0) 64 x (3, 0, 0) 49 = nI p := fun x => by rw [am_u_c, pk_un (by decide)]; exact e49
  have f64 : ∀ x, am_u M1 (3, 0, 0) 64 x (3, 0, 0) 64 = x := fun x => by rw [am_u_c, pk_us]
  have f44 : ∀ x, am_u M1 (3, 0, 0) 64 x (3, 0, 44) = M1 (3, 0, 44) := fun x => am_u_o _ _ _ (by simp)
  have F2 : ∀ x, FrA M (am_u M1 (3, 0, 0) 64 x) := fun x => F1.tr (FrA.u (Or.inr (Or.inr rfl)))
  have last : w_X12_takesNumber_p81 postI (nI e) (am_u M1 (3, 0, 0) 64 (nI (nN t (min (e - p) 5) p))) N := by
    unfold w_X12_takesNumber_p81
    have es : nI e - nI p = nI (e - p) := pk_sub d1
    have e5 : nI (e - p) ≤ (5 : Int32) ↔ e - p ≤ 5 := nI_leI (b := 5) (by omega) (by omega)
    rw [f49, es, e5, nI_eq (show e < 2 ^ 31 by omega) (show p < 2 ^ 31 by omega)]
    have lt1000 : (p < n → grp (t p) ≠ 2 ∨ ¬ enT t n p - p ≤ 5) → tokV t n p < 1000 := fun w => by
      rcases tok_cases hk with ⟨_, v⟩ | ⟨hp, g, s, v⟩ | ⟨hp, g, l, v⟩ | ⟨hp, g, l, v, b⟩ | ⟨hp, v, _⟩
      · rw [v]; decide
      · rw [v]
        have := (R.v p hp).1
        exact nI_lt (b := 1000) (by omega) (by omega)
      · rw [v]
        rcases wordV_rng (wN t (enT t n p - p) p) with z | ⟨k, _, k2, z⟩
        · rw [z]; decide
        · rw [z]; exact nI_lt (b := 1000) (by omega) (by omega)
      · rcases w hp with w | w
        · exact absurd g w
        · exact absurd l w
      · rw [v]; decide
    refine ⟨fun z => h0 (lt1000 (fun hp => Or.inl fun g => ?_)) _ (F2 _) (f49 _), fun z => ⟨fun z5 => ?_, fun z5 => h0 (lt1000 (fun hp => Or.inr ?_)) _ (F2 _) (f49 _)⟩⟩
    · rw [z] at d4
      exact d4 hp g
    · have hp : p < n := by omega
      have g := d3 p (Nat.le_refl _) (by omega)
      have een : enT t n p = e := by
        unfold enT
        rw [if_neg (by omega), g]
        exact hE
      rw [show min (e - p) 5 = e - p by omega]
      refine h1 (nN t (e - p) p) (nN_b z5 (fun i hi => d3 (p + i) (by omega) (by omega))) ?_ hp _ ((F2 _).tr (FrA.u (Or.inl rfl))) (by rw [am_u_c, pk_us, een]) (by rw [am_u_c, pk_un (by decide)]; exact f64 _)
      unfold tokV
      rw [if_neg (by omega), if_neg (by omega), if_neg (by omega), een, if_pos z5]
    · have g := d3 p (Nat.le_refl _) (by omega)
      have een : enT t n p = e := by
        unfold enT
        rw [if_neg (by omega), g]
        exact hE
      rw [een]
      exact z5
  have key : ∀ (j i : Nat), i + j = e → p ≤ i → w_X12_takesNumber_p14 postI (j + 1) (nI i) (am_u M1 (3, 0, 0) 64 (nI (nN t (min (i - p) 5) p))) N := by
    intro j
    induction j with
    | zero =>
      intro i hi hpi
      have hi' : i = e := by omega
      subst hi'
      rw [w_X12_takesNumber_p14_s]
      unfold w_X12_takesNumber_p14_b
      rw [f48, f44, nI_clamp (show i < 2 ^ 31 by omega)]
      refine ⟨fun _ => last, fun z => ?_⟩
      have hlt : i < n := Nat.lt_of_not_le fun w => z (nI_le w (by omega))
      obtain ⟨c1, c2⟩ := R1.v i hlt
      have vi : vp_in (nI i) 500 := vp_in_nI (by omega) (by omega)
      rw [c2]
      refine ⟨vi, fun _ => last, fun z1 => ⟨vi, fun _ => last, fun z2 => ?_⟩⟩
      have z3 := (sb_lt (s := 48) c1 (by omega)).mp z1
      rw [sb_lo _ z3.2] at z2
      have : ¬ 57 < t i := fun w => z2 (nI_lt (a := 57) w (by omega))
      exact absurd (grp_2.mpr ⟨z3.1, by omega⟩) (d4 hlt)
    | succ j ih =>
      intro i hi hpi
      have ih' := ih (i + 1) (by omega) (by omega)
      obtain ⟨c1, c2⟩ := R1.v i (by omega)
      have g1 := grp_2.mp (d3 i hpi (by omega))
      have vi : vp_in (nI i) 500 := vp_in_nI (by omega) (by omega)
      have es : nI i - nI p = nI (i - p) := pk_sub hpi
      have e5 : (5 : Int32) ≤ nI (i - p) ↔ 5 ≤ i - p := nI_leI (a := 5) (by omega) (by omega)
      rw [w_X12_takesNumber_p14_s]
      unfold w_X12_takesNumber_p14_b
      rw [f48, f49, f44, f64, nI_clamp (show i < 2 ^ 31 by omega), c2, sb_lo _ (by omega), es, e5, am_uu, nI_1]
      refine ⟨fun z => absurd z (nI_ge (by omega) (by omega)), fun _ => ⟨vi, fun z => absurd z (nI_nlt (b := 48) (by omega) (by omega)), fun _ => ⟨vi, fun z => absurd z (nI_nlt (a := 57) (by omega) (by omega)), fun _ => ⟨fun z => ?_, fun z => ⟨vi, ?_⟩⟩⟩⟩⟩
      · rw [show min (i + 1 - p) 5 = min (i - p) 5 by omega] at ih'
        exact ih'
      · rw [show min (i - p) 5 = i - p by omega]
        rw [show min (i + 1 - p) 5 = i - p + 1 by omega] at ih'
        have q1 : (10 : Int32) * nI (nN t (i - p) p) = nI (10 * nN t (i - p) p) := pk_mul 10 _
        have q2 : nI (10 * nN t (i - p) p + t i) - (48 : Int32) = nI (10 * nN t (i - p) p + t i - 48) := pk_sub (b := 48) (by omega)
        rw [q1, nI_add, q2]
        have ew : nN t (i - p + 1) p = nN t (i - p) p * 10 + (t (p + (i - p)) - 48) := rfl
        rw [ew, show p + (i - p) = i by omega] at ih'
        rw [show 10 * nN t (i - p) p + t i - 48 = nN t (i - p) p * 10 + (t i - 48) by omega]
        exact ih'
  have k0 := key (e - p) p (by omega) (Nat.le_refl _)
  rw [Nat.sub_self] at k0
  exact ⟨e - p + 1, k0⟩
theorem r_asked {w : Nat} (hw : w < 2 ^ 56) (h : ∀ k, k < 8 → w = WC (9 + k) → postI (nI k) M N) (h0 : (∀ k, k < 8 → ¬ w = WC (9 + k)) → postI (-1) M N) : w_X12_asked (lN w) M N postI := by
  have q : ∀ c, c < 2 ^ 56 → (lN w = lN c ↔ w = c) := fun c hc => lN_eqI hw hc
  have q0 : lN w = 2003133796 ↔ w = 2003133796 := q 2003133796 (by decide)
  have q1 : lN w = 7824756 ↔ w = 7824756 := q 7824756 (by decide)
  have q2 : lN w = 482955588467 ↔ w = 482955588467 := q 482955588467 (by decide)
  have q3 : lN w = 465726040947 ↔ w = 465726040947 := q 465726040947 (by decide)
  have q4 : lN w = 1936292453 ↔ w = 1936292453 := q 1936292453 (by decide)
  have q5 : lN w = 6909036 ↔ w = 6909036 := q 6909036 (by decide)
  have q6 : lN w = 1918986606 ↔ w = 1918986606 := q 1918986606 (by decide)
  have q7 : lN w = 444150998382 ↔ w = 444150998382 := q 444150998382 (by decide)
  unfold w_X12_asked
  rw [q0, q1, q2, q3, q4, q5, q6, q7]
  refine ⟨fun z0 => ⟨fun z1 => ⟨fun z2 => ⟨fun z3 => ⟨fun z4 => ⟨fun z5 => ⟨fun z6 => ⟨fun z7 => h0 (fun k hk e => ?_), fun e => h 7 (by decide) e⟩, fun e => h 6 (by decide) e⟩, fun e => h 5 (by decide) e⟩, fun e => h 4 (by decide) e⟩, fun e => h 3 (by decide) e⟩, fun e => h 2 (by decide) e⟩, fun e => h 1 (by decide) e⟩, fun e => h 0 (by decide) e⟩
  have : k = 0 ∨ k = 1 ∨ k = 2 ∨ k = 3 ∨ k = 4 ∨ k = 5 ∨ k = 6 ∨ k = 7 := by omega
  rcases this with r | r | r | r | r | r | r | r <;> subst r
  · exact z0 e
  · exact z1 e
  · exact z2 e
  · exact z3 e
  · exact z4 e
  · exact z5 e
  · exact z6 e
  · exact z7 e
end RN
/-! code as lists -/
def ecN (w a : Nat) : Nat := if w = 1 then 9 + a else ([0, 0, 43, 45, 42, 47, 60, 62, 61, 6, 7, 8] : List Nat).getD w 0
def enc (x : Nat × Nat) : Int32 := if x.1 = 0 then nI x.2 else - nI (ecN x.1 x.2)
def CSt (t : Nat → Nat) (n p : Nat) (CC : List Int32) (M : am_I) : Prop := (TKA t n M) ∧ (M (0, 0, 7) 6 = nI (cs t p)) ∧ (M (0, 0, 7) 7 = nI CC.length) ∧ (∀ i, i < CC.length → M (0, 0, 11) i = CC.getD i 0)
theorem CSt.k {t : Nat → Nat} {n p : Nat} {CC : List Int32} {M : am_I} (h : CSt t n p CC M) : TKA t n M := h.1
theorem CSt.c {t : Nat → Nat} {n p : Nat} {CC : List Int32} {M : am_I} (h : CSt t n p CC M) : M (0, 0, 7) 6 = nI (cs t p) := h.2.1
theorem CSt.z {t : Nat → Nat} {n p : Nat} {CC : List Int32} {M : am_I} (h : CSt t n p CC M) : M (0, 0, 7) 7 = nI CC.length := h.2.2.1
theorem CSt.l {t : Nat → Nat} {n p : Nat} {CC : List Int32} {M : am_I} (h : CSt t n p CC M) : ∀ i, i < CC.length → M (0, 0, 11) i = CC.getD i 0 := h.2.2.2
def CFl (t : Nat → Nat) (n q : Nat) (M : am_I) : Prop := (TKA t n M) ∧ (M (0, 0, 7) 6 = nI (cs t q)) ∧ (∃ k, k ≤ 548 ∧ M (0, 0, 7) 7 = nI k)
theorem CFl.k {t : Nat → Nat} {n q : Nat} {M : am_I} (h : CFl t n q M) : TKA t n M := h.1
theorem CFl.c {t : Nat → Nat} {n q : Nat} {M : am_I} (h : CFl t n q M) : M (0, 0, 7) 6 = nI (cs t q) := h.2.1
theorem CFl.z {t : Nat → Nat} {n q : Nat} {M : am_I} (h : CFl t n q M) : ∃ k, k ≤ 548 ∧ M (0, 0, 7) 7 = nI k := h.2.2
def RPf (SS : List (Nat × Nat)) (M : am_I) : Prop := ∀ i, i < SS.length → M (3, 0, 39) i = nI (SS.getD i (0, 0)).1 ∧ M (3, 0, 40) i = nI (SS.getD i (0, 0)).2
def RSt (t : Nat → Nat) (n p o : Nat) (SS : List (Nat × Nat)) (M : am_I) : Prop := (RT t n M) ∧ (∃ a, M (3, 0, 0) 49 = nI a ∧ NB t n a p) ∧ (M (3, 0, 0) 50 = nI o) ∧ (M (3, 0, 0) 46 = nI SS.length) ∧ (RPf SS M)
theorem RSt.r {t : Nat → Nat} {n p o : Nat} {SS : List (Nat × Nat)} {M : am_I} (h : RSt t n p o SS M) : RT t n M := h.1
theorem RSt.a {t : Nat → Nat} {n p o : Nat} {SS : List (Nat × Nat)} {M : am_I} (h : RSt t n p o SS M) : ∃ a, M (3, 0, 0) 49 = nI a ∧ NB t n a p := h.2.1
theorem RSt.d {t : Nat → Nat} {n p o : Nat} {SS : List (Nat × Nat)} {M : am_I} (h : RSt t n p o SS M) : M (3, 0, 0) 50 = nI o := h.2.2.1
theorem RSt.z {t : Nat → Nat} {n p o : Nat} {SS : List (Nat × Nat)} {M : am_I} (h : RSt t n p o SS M) : M (3, 0, 0) 46 = nI SS.length := h.2.2.2.1
theorem RSt.l {t : Nat → Nat} {n p o : Nat} {SS : List (Nat × Nat)} {M : am_I} (h : RSt t n p o SS M) : RPf SS M := h.2.2.2.2
def FrP1 (M M1 : am_I) : Prop := (∀ c : am_C, c ≠ (0, 0, 7) → c ≠ (0, 0, 11) → M1 c = M c) ∧ ∀ j, j ≠ 6 → j ≠ 7 → M1 (0, 0, 7) j = M (0, 0, 7) j
def FrQ (M M1 : am_I) : Prop := (∀ c : am_C, c ≠ (3, 0, 0) → c ≠ (3, 0, 39) → c ≠ (3, 0, 40) → M1 c = M c) ∧ ∀ j, j ≠ 46 → j ≠ 49 → j ≠ 50 → j ≠ 63 → j ≠ 64 → M1 (3, 0, 0) j = M (3, 0, 0) j
section PS
variable {t : Nat → Nat} {n p q a k o w x : Nat} {M M1 M2 : am_I} {N : am_N} {CC : List Int32} {SS : List (Nat × Nat)} {post : am_I → am_N → Prop} {postI : Int32 → am_I → am_N → Prop} {postL : Int64 → am_I → am_N → Prop}
theorem gd_l {α : Type} {A B : List α} {d : α} {i : Nat} (h : i < A.length) : (A ++ B).getD i d = A.getD i d := by
  rw [List.getD_eq_getElem?_getD, List.getD_eq_getElem?_getD, List.getElem?_append_left h]
theorem gd_r {α : Type} {A : List α} {b d : α} : (A ++ [b]).getD A.length d = b := by
  rw [List.getD_eq_getElem?_getD, List.getElem?_append_right (Nat.le_refl _), Nat.sub_self]
  rfl
theorem FrP1.rf : FrP1 M M := ⟨fun _ _ _ => rfl, fun _ _ _ => rfl⟩
theorem FrP1.tr (h1 : FrP1 M M1) (h2 : FrP1 M1 M2) : FrP1 M M2 := ⟨fun c q1 q2 => (h2.1 c q1 q2).trans (h1.1 c q1 q2), fun j q1 q2 => (h2.2 j q1 q2).trans (h1.2 j q1 q2)⟩
theorem FrQ.rf : FrQ M M := ⟨fun _ _ _ _ => rfl, fun _ _ _ _ _ _ => rfl⟩
theorem FrQ.tr (h1 : FrQ M M1) (h2 : FrQ M1 M2) : FrQ M M2 := ⟨fun c q1 q2 q3 => (h2.1 c q1 q2 q3).trans (h1.1 c q1 q2 q3), fun j q1 q2 q3 q4 q5 => (h2.2 j q1 q2 q3 q4 q5).trans (h1.2 j q1 q2 q3 q4 q5)⟩
theorem FrQ.ofA (h : FrA M M1) : FrQ M M1 := ⟨fun c q1 _ _ => h.1 c q1, fun j _ q2 _ q4 q5 => h.2 j q2 q4 q5⟩
theorem TKA.cg (T : TKA t n M) (F : FrP1 M M1) : TKA t n M1 := ⟨by rw [F.2 5 (by decide) (by decide)]; exact T.k, fun p hp => by rw [F.1 _ (by simp) (by simp), F.1 _ (by simp) (by simp)]; exact T.v p hp⟩
theorem CSt.fl (S : CSt t n p CC M) (h : CC.length ≤ 548) : CFl t n p M := ⟨S.k, S.c, CC.length, h, S.z⟩
theorem cs_501 (hn : n ≤ 500) (hp : p ≤ n) : cs t p ≤ 500 ∧ cs t p ≤ cs t n := ⟨by have := cs_le (t := t) p; omega, cs_mono hp⟩
theorem c_here (T : TKA t n M) (hn : n ≤ 500) (e6 : M (0, 0, 7) 6 = nI (cs t p)) (hk : TK t n p) (h : postI (tokV t n p) M N) : w_X7_here M N postI := by
  obtain ⟨b1, b2⟩ := cs_501 (t := t) hn hk.1
  have b3 := cs_le (t := t) n
  unfold w_X7_here
  rw [e6, T.k, nI_clamp (show cs t p < 2 ^ 31 by omega), (T.v p hk).1]
  exact ⟨fun z => absurd z (nI_pos (by omega)), fun _ => ⟨fun z => absurd z (nI_ge (by omega) (by omega)), fun _ => ⟨vp_in_nI (by omega) (by omega), h⟩⟩⟩
theorem c_placeHere (T : TKA t n M) (hn : n ≤ 500) (e6 : M (0, 0, 7) 6 = nI (cs t p)) (hk : TK t n p) (h : postI (nI p) M N) : w_X7_placeHere M N postI := by
  obtain ⟨b1, b2⟩ := cs_501 (t := t) hn hk.1
  have b3 := cs_le (t := t) n
  unfold w_X7_placeHere
  rw [e6, T.k, nI_clamp (show cs t p < 2 ^ 31 by omega), (T.v p hk).2]
  exact ⟨fun z => absurd z (nI_pos (by omega)), fun _ => ⟨fun z => absurd z (nI_ge (by omega) (by omega)), fun _ => ⟨vp_in_nI (by omega) (by omega), h⟩⟩⟩
/-- one token further -/
theorem CSt.adv (S : CSt t n p CC M) (hk : TK t n p) (hp : p < n) : FrP1 M (am_u M (0, 0, 7) 6 (M (0, 0, 7) 6 + 1)) ∧ CSt t n (nxT t n p) CC (am_u M (0, 0, 7) 6 (M (0, 0, 7) 6 + 1)) := by
  have F : FrP1 M (am_u M (0, 0, 7) 6 (M (0, 0, 7) 6 + 1)) := ⟨fun c q1 _ => am_u_o _ _ _ q1, fun j q1 _ => by rw [am_u_c, pk_un q1]⟩
  refine ⟨F, S.k.cg F, ?_, ?_, fun i hi => ?_⟩
  · rw [am_u_c, pk_us, S.c, nI_1, (nx_sp hk hp).2.2.1]
  · rw [am_u_c, pk_un (by decide)]; exact S.z
  · rw [am_u_o _ _ _ (by simp)]; exact S.l i hi
theorem CFl.adv (S : CFl t n p M) (hk : TK t n p) (hp : p < n) : FrP1 M (am_u M (0, 0, 7) 6 (M (0, 0, 7) 6 + 1)) ∧ CFl t n (nxT t n p) (am_u M (0, 0, 7) 6 (M (0, 0, 7) 6 + 1)) := by
  have F : FrP1 M (am_u M (0, 0, 7) 6 (M (0, 0, 7) 6 + 1)) := ⟨fun c q1 _ => am_u_o _ _ _ q1, fun j q1 _ => by rw [am_u_c, pk_un q1]⟩
  obtain ⟨k, h1, h2⟩ := S.z
  refine ⟨F, S.k.cg F, ?_, k, h1, ?_⟩
  · rw [am_u_c, pk_us, S.c, nI_1, (nx_sp hk hp).2.2.1]
  · rw [am_u_c, pk_un (by decide)]; exact h2
theorem c_accept {s : Int32} (S : CSt t n p CC M) (hn : n ≤ 500) (hk : TK t n p) (h1 : tokV t n p = s → ∀ M1, FrP1 M M1 → (p < n → CSt t n (nxT t n p) CC M1) → postI 1 M1 N) (h0 : ¬ tokV t n p = s → postI 0 M N) : w_X7_accept s M N postI := by
  obtain ⟨b1, b2⟩ := cs_501 (t := t) hn hk.1
  have b3 := cs_le (t := t) n
  unfold w_X7_accept w_X7_accept_p36
  have e6 := S.c
  rw [e6, S.k.k, nI_clamp (show cs t p < 2 ^ 31 by omega), (S.k.v p hk).1]
  refine ⟨fun z => absurd z (nI_pos (by omega)), fun _ => ⟨fun z => absurd z (nI_ge (by omega) (by omega)), fun _ => ⟨vp_in_nI (by omega) (by omega), fun z => ⟨fun _ => ⟨Or.inl rfl, h0 z⟩, fun w => absurd rfl w⟩, fun z => ⟨fun w => absurd w (by decide), fun _ => ⟨Or.inr rfl, ?_⟩⟩⟩⟩⟩
  rw [← e6]
  exact h1 z _ ⟨fun c q1 _ => am_u_o _ _ _ q1, fun j q1 _ => by rw [am_u_c, pk_un q1]⟩ (fun hp => (S.adv hk hp).2)
theorem c_emit {y : Int32} (S : CSt t n p CC M) (hl : CC.length < 548) (h : ∀ M1, FrP1 M M1 → CSt t n p (CC ++ [y]) M1 → post M1 N) : w_X7_emit y M N post := by
  have s11 : ∀ (g : am_I) (i : Nat) (v : Int32), am_u g (0, 0, 11) i v (0, 0, 7) = g (0, 0, 7) := fun g i v => am_u_o _ _ _ (by simp)
  unfold w_X7_emit
  rw [s11, S.z, nI_clamp (show CC.length < 2 ^ 31 by omega), nI_1]
  have F : FrP1 M (am_u (am_u M (0, 0, 11) CC.length y) (0, 0, 7) 7 (nI (CC.length + 1))) := ⟨fun c q1 q2 => by rw [am_u_o _ _ _ q1, am_u_o _ _ _ q2], fun j q1 q2 => by rw [am_u_c, pk_un q2, s11]⟩
  refine ⟨fun z => absurd z (nI_ge (b := 548) hl (by omega)), fun _ => ⟨vp_in_nI hl (by omega), h _ F ⟨S.k.cg F, ?_, ?_, fun i hi => ?_⟩⟩⟩
  · rw [am_u_c, pk_un (by decide), s11]; exact S.c
  · rw [am_u_c, pk_us, List.length_append]; rfl
  · rw [am_u_o _ _ _ (by simp), am_u_c]
    rw [List.length_append] at hi
    have hi2 : i < CC.length + 1 := hi
    by_cases e : i = CC.length
    · subst e; rw [pk_us, gd_r]
    · rw [pk_un e, gd_l (by omega)]
      exact S.l i (by omega)
theorem c_emitF {y : Int32} (S : CFl t n p M) (h : ∀ M1, FrP1 M M1 → CFl t n p M1 → post M1 N) : w_X7_emit y M N post := by
  have s11 : ∀ (g : am_I) (i : Nat) (v : Int32), am_u g (0, 0, 11) i v (0, 0, 7) = g (0, 0, 7) := fun g i v => am_u_o _ _ _ (by simp)
  obtain ⟨k, h1, h2⟩ := S.z
  unfold w_X7_emit
  rw [s11, h2, nI_clamp (show k < 2 ^ 31 by omega), nI_1]
  have F : FrP1 M (am_u (am_u M (0, 0, 11) k y) (0, 0, 7) 7 (nI (k + 1))) := ⟨fun c q1 q2 => by rw [am_u_o _ _ _ q1, am_u_o _ _ _ q2], fun j q1 q2 => by rw [am_u_c, pk_un q2, s11]⟩
  refine ⟨fun _ => h M FrP1.rf S, fun z => ?_⟩
  have hk : k < 548 := Nat.lt_of_not_le fun w => z (nI_le (a := 548) w (by omega))
  refine ⟨vp_in_nI hk (by omega), h _ F ⟨S.k.cg F, ?_, k + 1, by omega, ?_⟩⟩
  · rw [am_u_c, pk_un (by decide), s11]; exact S.c
  · rw [am_u_c, pk_us]
/-! the reference -/
theorem RPf.cg (h : RPf SS M) (e1 : M1 (3, 0, 39) = M (3, 0, 39)) (e2 : M1 (3, 0, 40) = M (3, 0, 40)) : RPf SS M1 := fun i hi => by rw [e1, e2]; exact h i hi
theorem RPf.pre {E : List (Nat × Nat)} (h : RPf (SS ++ E) M) : RPf SS M := fun i hi => by
  have := h i (by rw [List.length_append]; omega)
  rw [gd_l hi] at this
  exact this
theorem RSt.stay (S : RSt t n p o SS M) (F : FrA M M1) (h : ∃ a, M1 (3, 0, 0) 49 = nI a ∧ NB t n a q) : RSt t n q o SS M1 := ⟨S.r.cg F, h, by rw [F.2 50 (by decide) (by decide) (by decide)]; exact S.d, by rw [F.2 46 (by decide) (by decide) (by decide)]; exact S.z, S.l.cg (F.1 _ (by simp)) (F.1 _ (by simp))⟩
theorem RSt.adv (S : RSt t n p o SS M) (hk : TK t n p) (hp : p < n) (F : FrA M M1) (e : M1 (3, 0, 0) 49 = nI (enT t n p)) : RSt t n (nxT t n p) o SS M1 := S.stay F ⟨_, e, (nx_sp hk hp).1⟩
theorem RSt.same (S : RSt t n p o SS M) (F : FrA M M1) (hk : TK t n p) (e : M1 (3, 0, 0) 49 = nI p) : RSt t n p o SS M1 := S.stay F ⟨_, e, hk.nb⟩
theorem q_takes (S : RSt t n p o SS M) (hk : TK t n p) (k1 : 1 ≤ k) (k2 : k < 17) (h1 : tokV t n p = nI k → p < n → ∀ M1, FrA M M1 → RSt t n (nxT t n p) o SS M1 → postI 1 M1 N) (h0 : ¬ tokV t n p = nI k → ∀ M1, FrA M M1 → RSt t n p o SS M1 → M1 (3, 0, 0) 49 = nI p → postI 0 M1 N) : w_X12_takes (lN (WC k)) M N postI := by
  obtain ⟨a, e, hb⟩ := S.a
  exact r_takes S.r e hb hk k1 k2 (fun z hp M1 F e2 => h1 z hp M1 F (S.adv hk hp F e2)) (fun z M1 F e2 => h0 z M1 F (S.same F hk e2) e2)
theorem q_sign {s : Nat} (S : RSt t n p o SS M) (hk : TK t n p) (hs : s < 256) (hg : sgB s = true) (h1 : tokV t n p = nI s → p < n → ∀ M1, FrA M M1 → RSt t n (nxT t n p) o SS M1 → postI 1 M1 N) (h0 : ¬ tokV t n p = nI s → ∀ M1, FrA M M1 → RSt t n p o SS M1 → M1 (3, 0, 0) 49 = nI p → postI 0 M1 N) : w_X12_takesSign (nI s) M N postI := by
  obtain ⟨a, e, hb⟩ := S.a
  exact r_takesSign S.r e hb hk hs hg (fun z hp M1 F e2 => h1 z hp M1 F (S.adv hk hp F e2)) (fun z M1 F e2 => h0 z M1 F (S.same F hk e2) e2)
theorem q_puts (S : RSt t n p o SS M) (hl : SS.length < 6300) (h : ∀ M1, FrQ M M1 → RSt t n p o (SS ++ [(w, x)]) M1 → post M1 N) : w_X12_puts (nI w) (nI x) M N post := by
  have s39 : ∀ (g : am_I) (i : Nat) (v : Int32), am_u g (3, 0, 39) i v (3, 0, 0) = g (3, 0, 0) := fun g i v => am_u_o _ _ _ (by simp)
  have s40 : ∀ (g : am_I) (i : Nat) (v : Int32), am_u g (3, 0, 40) i v (3, 0, 0) = g (3, 0, 0) := fun g i v => am_u_o _ _ _ (by simp)
  unfold w_X12_puts
  rw [s40, s39, S.z, nI_clamp (show SS.length < 2 ^ 31 by omega), nI_1]
  have v1 : vp_in (nI SS.length) 6300 := vp_in_nI hl (by omega)
  refine ⟨v1, v1, h _ ⟨fun c q1 q2 q3 => by rw [am_u_o _ _ _ q1, am_u_o _ _ _ q3, am_u_o _ _ _ q2], fun j q1 _ _ _ _ => by rw [am_u_c, pk_un q1, s40, s39]⟩ ⟨⟨?_, S.r.b, fun i hi => ?_⟩, ?_, ?_, ?_, fun i hi => ?_⟩⟩
  · rw [am_u_c, pk_un (by decide), s40, s39]; exact S.r.s
  · rw [am_u_o _ _ _ (by simp), am_u_o _ _ _ (by simp), am_u_o _ _ _ (by simp)]; exact S.r.v i hi
  · rw [am_u_c, pk_un (by decide), s40, s39]; exact S.a
  · rw [am_u_c, pk_un (by decide), s40, s39]; exact S.d
  · rw [am_u_c, pk_us, List.length_append]; rfl
  · rw [List.length_append] at hi
    have hi2 : i < SS.length + 1 := hi
    rw [am_u_o _ _ _ (show ((3, 0, 39) : am_C) ≠ (3, 0, 0) by simp), am_u_o _ _ _ (show ((3, 0, 39) : am_C) ≠ (3, 0, 40) by simp), am_u_c, am_u_o _ _ _ (show ((3, 0, 40) : am_C) ≠ (3, 0, 0) by simp), am_u_c, am_u_o _ _ _ (show ((3, 0, 40) : am_C) ≠ (3, 0, 39) by simp)]
    by_cases e : i = SS.length
    · subst e; rw [pk_us, pk_us, gd_r]; exact ⟨rfl, rfl⟩
    · rw [pk_un e, pk_un e, gd_l (by omega)]
      exact S.l i (by omega)
theorem q_opens (S : RSt t n p o SS M) (ho : o ≤ 9) (h1 : o < 9 → ∀ M1, FrQ M M1 → M1 (3, 0, 0) 49 = M (3, 0, 0) 49 → M1 (3, 0, 0) 63 = M (3, 0, 0) 63 → RSt t n p (o + 1) SS M1 → postI 1 M1 N) (h0 : o = 9 → postI 0 M N) : w_X12_opens M N postI := by
  unfold w_X12_opens
  have e9 : nI o = (9 : Int32) ↔ o = 9 := nI_eq (b := 9) (by omega) (by omega)
  rw [S.d, e9, nI_1]
  refine ⟨fun z => h1 (by omega) _ ⟨fun c q1 q2 q3 => am_u_o _ _ _ q1, fun j _ _ q3 _ _ => by rw [am_u_c, pk_un q3]⟩ (by rw [am_u_c, pk_un (by decide)]) (by rw [am_u_c, pk_un (by decide)]) ⟨⟨?_, S.r.b, fun i hi => ?_⟩, ?_, ?_, ?_, ?_⟩, fun z => h0 z⟩
  · rw [am_u_c, pk_un (by decide)]; exact S.r.s
  · rw [am_u_o _ _ _ (by simp)]; exact S.r.v i hi
  · rw [am_u_c, pk_un (by decide)]; exact S.a
  · rw [am_u_c, pk_us]
  · rw [am_u_c, pk_un (by decide)]; exact S.z
  · exact S.l.cg (am_u_o _ _ _ (by simp)) (am_u_o _ _ _ (by simp))
theorem RSt.shut (S : RSt t n p (o + 1) SS M) : FrQ M (am_u M (3, 0, 0) 50 (M (3, 0, 0) 50 - 1)) ∧ RSt t n p o SS (am_u M (3, 0, 0) 50 (M (3, 0, 0) 50 - 1)) := by
  refine ⟨⟨fun c q1 q2 q3 => am_u_o _ _ _ q1, fun j _ _ q3 _ _ => by rw [am_u_c, pk_un q3]⟩, ⟨?_, S.r.b, fun i hi => ?_⟩, ?_, ?_, ?_, ?_⟩
  · rw [am_u_c, pk_un (by decide)]; exact S.r.s
  · rw [am_u_o _ _ _ (by simp)]; exact S.r.v i hi
  · rw [am_u_c, pk_un (by decide)]; exact S.a
  · rw [am_u_c, pk_us, S.d, nI_pred]
  · rw [am_u_c, pk_un (by decide)]; exact S.z
  · exact S.l.cg (am_u_o _ _ _ (by simp)) (am_u_o _ _ _ (by simp))
end PS
