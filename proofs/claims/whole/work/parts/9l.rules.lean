/-! ===== rules ===== -/
section RU
variable {t : Nat → Nat} {B n r : Nat} {M M1 M2 : am_I} {N : am_N} {a1 : Int32} {post : Int32 → am_I → am_N → Prop}
theorem c_min {a b : Nat} (h : a ≤ b) (hb : b < 2 ^ 31) (hp : post (nI a) M N) : w_J9_min_7cf53 (nI a) (nI b) M N post := by
  unfold w_J9_min_7cf53
  exact ⟨fun z => absurd z (nI_nlt h hb), fun _ => hp⟩
def FrRd (M M1 : am_I) : Prop := (∀ c : am_C, c ≠ (0, 0, 7) → c ≠ (0, 0, 9) → c ≠ (0, 0, 10) → c ≠ (0, 0, 11) → M1 c = M c)
theorem c_read {ok : Bool} {q p : Nat} {QQ : List SX} (T : TpF t B M) (hB : B ≤ 500) (hn : n ≤ B) (hk : TK t n p) (hc : cs t p = 0) (R : RDR t n 24 p [] ok q QQ) (h : ∀ M1, FrRd M M1 → M1 (0, 0, 7) 4 = 0 → (ok = true → CSt t n q (QQ.flatMap cdS) M1 ∧ M1 (0, 0, 7) 8 = nI QQ.length) → post (rdV ok q) M1 N) : w_X7_read (nI n) M N post := by
  unfold w_X7_read
  rw [T.1]
  refine c_min hn (by omega) ?_
  refine c_split (B := B) ⟨hB, T.2⟩ hn (fun M1 F1 K1 => ⟨26, ?_⟩)
  have g : ∀ (j : Nat), j ≠ 4 → j ≠ 6 → j ≠ 7 → j ≠ 8 → am_u (am_u (am_u (am_u M1 (0, 0, 7) 4 0) (0, 0, 7) 6 0) (0, 0, 7) 7 0) (0, 0, 7) 8 0 (0, 0, 7) j = M1 (0, 0, 7) j := fun j q1 q2 q3 q4 => by
    rw [am_u_c, pk_un q4, am_u_c, pk_un q3, am_u_c, pk_un q2, am_u_c, pk_un q1]
  have gc : ∀ c : am_C, c ≠ (0, 0, 7) → am_u (am_u (am_u (am_u M1 (0, 0, 7) 4 0) (0, 0, 7) 6 0) (0, 0, 7) 7 0) (0, 0, 7) 8 0 c = M1 c := fun c q => by
    rw [am_u_o _ _ _ q, am_u_o _ _ _ q, am_u_o _ _ _ q, am_u_o _ _ _ q]
  have g4 : am_u (am_u (am_u (am_u M1 (0, 0, 7) 4 0) (0, 0, 7) 6 0) (0, 0, 7) 7 0) (0, 0, 7) 8 0 (0, 0, 7) 4 = 0 := by
    rw [am_u_c, pk_un (by decide), am_u_c, pk_un (by decide), am_u_c, pk_un (by decide), am_u_c, pk_us]
  have g6 : am_u (am_u (am_u (am_u M1 (0, 0, 7) 4 0) (0, 0, 7) 6 0) (0, 0, 7) 7 0) (0, 0, 7) 8 0 (0, 0, 7) 6 = 0 := by
    rw [am_u_c, pk_un (by decide), am_u_c, pk_un (by decide), am_u_c, pk_us]
  have g7 : am_u (am_u (am_u (am_u M1 (0, 0, 7) 4 0) (0, 0, 7) 6 0) (0, 0, 7) 7 0) (0, 0, 7) 8 0 (0, 0, 7) 7 = 0 := by
    rw [am_u_c, pk_un (by decide), am_u_c, pk_us]
  have g8 : am_u (am_u (am_u (am_u M1 (0, 0, 7) 4 0) (0, 0, 7) 6 0) (0, 0, 7) 7 0) (0, 0, 7) 8 0 (0, 0, 7) 8 = 0 := by
    rw [am_u_c, pk_us]
  generalize am_u (am_u (am_u (am_u M1 (0, 0, 7) 4 0) (0, 0, 7) 6 0) (0, 0, 7) 7 0) (0, 0, 7) 8 0 = M2 at g gc g4 g6 g7 g8
  refine R.cl M2 N post 26 ⟨⟨?_, fun i hi => ?_⟩, ?_, ?_, fun i hi => absurd hi (Nat.not_lt_zero _)⟩ (by rw [g8]; rfl) (by omega) (fun M3 F3 h3 => h M3 (fun c q1 q2 q3 q4 => ?_) ?_ h3)
  · rw [g 5 (by decide) (by decide) (by decide) (by decide)]; exact K1.k
  · rw [gc _ (by simp), gc _ (by simp)]; exact K1.v i hi
  · rw [g6, hc]; rfl
  · rw [g7]; rfl
  · rw [F3.1 c q1 q4, gc c q1, F1.1 c q1 q2 q3]
  · rw [F3.2 4 (by decide) (by decide) (by decide), g4]
theorem r_copy (T : ∀ i, i < n → t i < 256 ∧ M (3, 0, 43) i = sbI (t i)) (hn : n ≤ 500) (h : ∀ M1, (∀ c : am_C, c ≠ (3, 0, 44) → M1 c = M c) → (∀ i, i < n → M1 (3, 0, 44) i = sbI (t i)) → ∀ zv1 : Int32, zv1 = (am_u (am_u (am_u M1 (3, 0, 0) 48 (nI n)) (3, 0, 0) 47 0) (3, 0, 0) 49 0) (3, 0, 0) 46 → vp_in ((am_u (am_u (am_u M1 (3, 0, 0) 48 (nI n)) (3, 0, 0) 47 0) (3, 0, 0) 49 0) (3, 0, 0) 45) 9 ∧ w_X12_blanks (am_u (am_u (am_u (am_u M1 (3, 0, 0) 48 (nI n)) (3, 0, 0) 47 0) (3, 0, 0) 49 0) (3, 0, 34) ((am_u (am_u (am_u M1 (3, 0, 0) 48 (nI n)) (3, 0, 0) 47 0) (3, 0, 0) 49 0) (3, 0, 0) 45).toNatClampNeg 0) N (fun zM2 zN3 => ∃ n, w_X12_rules_p88 post n zv1 1 zM2 zN3)) : ∃ j, w_X12_rules_p29 post j (nI n) 0 M N := by
  have key : ∀ (d i : Nat), i + d = n → ∀ M1 : am_I, (∀ c : am_C, c ≠ (3, 0, 44) → M1 c = M c) → (∀ j, j < i → M1 (3, 0, 44) j = sbI (t j)) → w_X12_rules_p29 post (d + 1) (nI n) (nI i) M1 N := by
    intro d
    induction d with
    | zero =>
      intro i hi M1 e1 e2
      have : i = n := by omega
      subst this
      rw [w_X12_rules_p29_s]
      unfold w_X12_rules_p29_b
      exact ⟨fun _ => h M1 e1 e2, fun z => absurd (nI_le (Nat.le_refl _) (by omega)) z⟩
    | succ d ih =>
      intro i hi M1 e1 e2
      rw [w_X12_rules_p29_s]
      unfold w_X12_rules_p29_b
      rw [nI_clamp (show i < 2 ^ 31 by omega), nI_1, e1 (3, 0, 43) (by simp), (T i (by omega)).2]
      have eb : vp_nar .byte (sbI (t i)) = sbI (t i) := pk_vb _
      rw [eb]
      refine ⟨fun z => absurd z (nI_ge (by omega) (by omega)), fun _ => ⟨vp_in_nI (by omega) (by omega), vp_in_nI (by omega) (by omega), ih (i + 1) (by omega) _ (fun c q => by rw [am_u_o _ _ _ q]; exact e1 c q) (fun j hj => ?_)⟩⟩
      rw [am_u_c]
      by_cases e : j = i
      · subst e; rw [pk_us]
      · rw [pk_un e]; exact e2 j (by omega)
  exact ⟨n + 1, key n 0 (by omega) M (fun _ _ => rfl) (fun j hj => by omega)⟩
def FrRm (r : Nat) (M M1 : am_I) : Prop := (∀ c : am_C, ¬ (c.1 = 3 ∧ (c.2.2 = 0 ∨ (34 ≤ c.2.2 ∧ c.2.2 ≤ 40) ∨ c.2.2 = 44)) → M1 c = M c) ∧ (∀ j, j < 46 → M1 (3, 0, 0) j = M (3, 0, 0) j) ∧ (∀ j, j < r → M1 (3, 0, 34) j = M (3, 0, 34) j) ∧ ∀ j, j < 24 * r → M1 (3, 0, 35) j = M (3, 0, 35) j ∧ M1 (3, 0, 36) j = M (3, 0, 36) j ∧ M1 (3, 0, 37) j = M (3, 0, 37) j ∧ M1 (3, 0, 38) j = M (3, 0, 38) j
theorem r_rules {ok : Bool} {q p : Nat} {QQ : List SX} {SS : List (Nat × Nat)} (T : TpM t B M) (hB : B ≤ 500) (hn : n ≤ B) (hr : r < 8) (e45 : M (3, 0, 0) 45 = nI r) (e46 : M (3, 0, 0) 46 = nI SS.length) (hS : SS.length ≤ 500 * r) (P : RPf SS M) (hb : NB t n 0 p) (hk : TK t n p) (R : RDR t n 24 p [] ok q QQ) (h : ∀ M1, FrRm r M M1 → M1 (3, 0, 0) 47 = 0 → RPf SS M1 → (ok = true → M1 (3, 0, 0) 46 = nI (SS ++ QQ.flatMap stS).length ∧ RPf (SS ++ QQ.flatMap stS) M1 ∧ M1 (3, 0, 34) r = nI QQ.length ∧ RPg QQ r (SS ++ QQ.flatMap stS) M1) → (ok = false → M1 (3, 0, 0) 49 = nI q) → w_X12_rules_p174 post (nI SS.length) (bI ok) M1 N) : w_X12_rules (nI n) M N post := by
  unfold w_X12_rules w_X12_isIn
  rw [T.1]
  have q8 : M (3, 0, 0) 45 = (8 : Int32) ↔ r = 8 := by
    rw [e45]; exact nI_eq (b := 8) (by omega) (by omega)
  refine ⟨fun z => absurd z (nI_pos (by omega)), fun _ => ⟨fun z => absurd z (nI_nlt hn (by omega)), fun _ => ⟨fun _ => ⟨fun _ => ?_, fun z => absurd (q8.mp z) (by omega)⟩, fun z => absurd z (by decide)⟩⟩⟩
  refine r_copy (t := t) (fun i hi => T.2 i (by omega)) (by omega) (fun M1 e1 e2 zv1 hz => ?_)
  have g : ∀ (j : Nat), j ≠ 47 → j ≠ 48 → j ≠ 49 → am_u (am_u (am_u M1 (3, 0, 0) 48 (nI n)) (3, 0, 0) 47 0) (3, 0, 0) 49 0 (3, 0, 0) j = M (3, 0, 0) j := fun j q1 q2 q3 => by
    rw [am_u_c, pk_un q3, am_u_c, pk_un q1, am_u_c, pk_un q2, e1 _ (by simp)]
  have gc : ∀ c : am_C, c ≠ (3, 0, 0) → am_u (am_u (am_u M1 (3, 0, 0) 48 (nI n)) (3, 0, 0) 47 0) (3, 0, 0) 49 0 c = M1 c := fun c q => by
    rw [am_u_o _ _ _ q, am_u_o _ _ _ q, am_u_o _ _ _ q]
  have g47 : am_u (am_u (am_u M1 (3, 0, 0) 48 (nI n)) (3, 0, 0) 47 0) (3, 0, 0) 49 0 (3, 0, 0) 47 = 0 := by
    rw [am_u_c, pk_un (by decide), am_u_c, pk_us]
  have g48 : am_u (am_u (am_u M1 (3, 0, 0) 48 (nI n)) (3, 0, 0) 47 0) (3, 0, 0) 49 0 (3, 0, 0) 48 = nI n := by
    rw [am_u_c, pk_un (by decide), am_u_c, pk_un (by decide), am_u_c, pk_us]
  have g49 : am_u (am_u (am_u M1 (3, 0, 0) 48 (nI n)) (3, 0, 0) 47 0) (3, 0, 0) 49 0 (3, 0, 0) 49 = nI 0 := by
    rw [am_u_c, pk_us]; rfl
  generalize am_u (am_u (am_u M1 (3, 0, 0) 48 (nI n)) (3, 0, 0) 47 0) (3, 0, 0) 49 0 = M2 at g gc g47 g48 g49 hz ⊢
  rw [g 46 (by decide) (by decide) (by decide), e46] at hz
  subst hz
  rw [g 45 (by decide) (by decide) (by decide), e45, nI_clamp (show r < 2 ^ 31 by omega)]
  refine ⟨vp_in_nI (by omega) (by omega), ?_⟩
  have f0 : am_u M2 (3, 0, 34) r 0 (3, 0, 0) = M2 (3, 0, 0) := am_u_o _ _ _ (by simp)
  have f34 : am_u M2 (3, 0, 34) r 0 (3, 0, 34) = upd (M2 (3, 0, 34)) r 0 := am_u_c _ _ _ _
  have fc : ∀ c : am_C, c ≠ (3, 0, 34) → am_u M2 (3, 0, 34) r 0 c = M2 c := fun c q => am_u_o _ _ _ q
  generalize am_u M2 (3, 0, 34) r 0 = M3 at f0 f34 fc ⊢
  obtain ⟨o, ho⟩ := nI_sur (M3 (3, 0, 0) 50)
  have S3 : RSt t n p o (SS ++ ([] : List SX).flatMap stS) M3 := by
    rw [show ([] : List SX).flatMap stS = [] from rfl, List.append_nil]
    refine ⟨⟨by rw [f0]; exact g48, by omega, fun i hi => ⟨(T.2 i (by omega)).1, ?_⟩⟩, ⟨0, by rw [f0]; exact g49, hb⟩, ho, ?_, P.cg ?_ ?_⟩
    · rw [fc _ (by simp), gc _ (by simp)]; exact e2 i hi
    · rw [f0, g 46 (by decide) (by decide) (by decide)]; exact e46
    · rw [fc _ (by simp), gc _ (by simp), e1 _ (by simp)]
    · rw [fc _ (by simp), gc _ (by simp), e1 _ (by simp)]
  refine r_blanks S3.r (by rw [f0]; exact g49) hb ⟨26, ?_⟩
  have F4 : FrA M3 (am_u M3 (3, 0, 0) 49 (nI p)) := FrA.u (Or.inl rfl)
  have e49 : am_u M3 (3, 0, 0) 49 (nI p) (3, 0, 0) 49 = nI p := by rw [am_u_c, pk_us]
  have S4 := S3.same F4 hk e49
  have n45 : am_u M3 (3, 0, 0) 49 (nI p) (3, 0, 0) 45 = nI r := by
    rw [am_u_c, pk_un (by decide), f0, g 45 (by decide) (by decide) (by decide)]; exact e45
  have n34 : am_u M3 (3, 0, 0) 49 (nI p) (3, 0, 34) r = nI ([] : List SX).length := by
    rw [am_u_o _ _ _ (by simp), f34]; exact pk_us
  generalize hM4 : am_u M3 (3, 0, 0) 49 (nI p) = M4 at F4 e49 S4 n45 n34
  refine R.rf o r SS M4 N post (nI SS.length) 26 (by omega) S4 e49 n45 n34 (fun k hk => absurd hk (Nat.not_lt_zero _)) (by omega) (by omega) (fun M5 F5 P5 h5 h6 => h M5 ⟨fun c q => ?_, fun j hj => ?_, fun j hj => ?_, fun j hj => ?_⟩ ?_ P5 h5 h6)
  · have w : ∀ i : Nat, (i = 0 ∨ (34 ≤ i ∧ i ≤ 40) ∨ i = 44) → c ≠ (3, 0, i) := fun i hi e => q (by rw [e]; exact ⟨rfl, hi⟩)
    rw [F5.1 c (w 0 (by decide)) (w 34 (by decide)) (w 35 (by decide)) (w 36 (by decide)) (w 37 (by decide)) (w 38 (by decide)) (w 39 (by decide)) (w 40 (by decide)), F4.1 c (w 0 (by decide)), fc c (w 34 (by decide)), gc c (w 0 (by decide)), e1 c (w 44 (by decide))]
  · rw [F5.2.1 j (by omega) (by omega) (by omega) (by omega) (by omega), F4.2 j (by omega) (by omega) (by omega), f0, g j (by omega) (by omega) (by omega)]
  · rw [F5.2.2.1 j hj, F4.1 _ (by simp), f34]
    rw [pk_un (by omega), gc _ (by simp), e1 _ (by simp)]
  · obtain ⟨d1, d2, d3, d4⟩ := F5.2.2.2 j hj
    rw [d1, d2, d3, d4, F4.1 (3, 0, 35) (by simp), F4.1 (3, 0, 36) (by simp), F4.1 (3, 0, 37) (by simp), F4.1 (3, 0, 38) (by simp), fc (3, 0, 35) (by simp), fc (3, 0, 36) (by simp), fc (3, 0, 37) (by simp), fc (3, 0, 38) (by simp), gc (3, 0, 35) (by simp), gc (3, 0, 36) (by simp), gc (3, 0, 37) (by simp), gc (3, 0, 38) (by simp), e1 (3, 0, 35) (by simp), e1 (3, 0, 36) (by simp), e1 (3, 0, 37) (by simp), e1 (3, 0, 38) (by simp)]
    exact ⟨rfl, rfl, rfl, rfl⟩
  · rw [F5.2.1 47 (by decide) (by decide) (by decide) (by decide) (by decide), F4.2 47 (by decide) (by decide) (by decide), f0]; exact g47
end RU
