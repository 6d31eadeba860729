/-! ===== a statement, in both parsers ===== -/
def cdS (x : Nat × List (Nat × Nat) × List (Nat × Nat)) : List Int32 := (if x.1 = 3 then x.2.1.map enc else [0]) ++ ((if x.2.2.isEmpty = true then [1] else x.2.2.map enc) ++ [-nI (x.1 + 1)])
def stS (x : Nat × List (Nat × Nat) × List (Nat × Nat)) : List (Nat × Nat) := x.2.1 ++ x.2.2
def okS (x : Nat × List (Nat × Nat) × List (Nat × Nat)) : Prop := (x.1 < 4) ∧ (x.1 = 3 → ∀ (τ : List Bool) (c : Nat), τ.length + 21 ≤ c → tyR c x.2.1 τ = some (false :: τ)) ∧ (x.1 ≠ 3 → x.2.1 = []) ∧ (x.2.2 = [] ∨ ∀ (τ : List Bool) (c : Nat), τ.length + 24 ≤ c → tyR c x.2.2 τ = some (true :: τ))
theorem okS.s {x : Nat × List (Nat × Nat) × List (Nat × Nat)} (h : okS x) : x.1 < 4 := h.1
theorem okS.g {x : Nat × List (Nat × Nat) × List (Nat × Nat)} (h : okS x) : x.1 = 3 → ∀ (τ : List Bool) (c : Nat), τ.length + 21 ≤ c → tyR c x.2.1 τ = some (false :: τ) := h.2.1
theorem okS.e {x : Nat × List (Nat × Nat) × List (Nat × Nat)} (h : okS x) : x.1 ≠ 3 → x.2.1 = [] := h.2.2.1
theorem okS.b {x : Nat × List (Nat × Nat) × List (Nat × Nat)} (h : okS x) : x.2.2 = [] ∨ ∀ (τ : List Bool) (c : Nat), τ.length + 24 ≤ c → tyR c x.2.2 τ = some (true :: τ) := h.2.2.2
def FrP2 (M M1 : am_I) : Prop := (∀ c : am_C, c ≠ (0, 0, 7) → c ≠ (0, 0, 11) → M1 c = M c) ∧ ∀ j, j ≠ 6 → j ≠ 7 → j ≠ 8 → M1 (0, 0, 7) j = M (0, 0, 7) j
def FrV (k : Nat) (M M1 : am_I) : Prop := (∀ c : am_C, c ≠ (3, 0, 0) → c ≠ (3, 0, 35) → c ≠ (3, 0, 36) → c ≠ (3, 0, 37) → c ≠ (3, 0, 38) → c ≠ (3, 0, 39) → c ≠ (3, 0, 40) → M1 c = M c) ∧ (∀ j, j ≠ 46 → j ≠ 49 → j ≠ 50 → j ≠ 63 → j ≠ 64 → M1 (3, 0, 0) j = M (3, 0, 0) j) ∧ ∀ j, j ≠ k → M1 (3, 0, 35) j = M (3, 0, 35) j ∧ M1 (3, 0, 36) j = M (3, 0, 36) j ∧ M1 (3, 0, 37) j = M (3, 0, 37) j ∧ M1 (3, 0, 38) j = M (3, 0, 38) j
section ST
variable {t : Nat → Nat} {n p q k o : Nat} {M M1 M2 : am_I} {N : am_N} {CC : List Int32} {SS : List (Nat × Nat)}
theorem nI_sur (x : Int32) : ∃ o, x = nI o := ⟨x.toBitVec.toNat, Int32.toBitVec_inj.mp (BitVec.eq_of_toNat_eq (pk_tn x.toBitVec.isLt).symm)⟩
theorem FrP2.of (h : FrP1 M M1) : FrP2 M M1 := ⟨h.1, fun j q1 q2 _ => h.2 j q1 q2⟩
theorem FrP2.tr (h1 : FrP2 M M1) (h2 : FrP2 M1 M2) : FrP2 M M2 := ⟨fun c q1 q2 => (h2.1 c q1 q2).trans (h1.1 c q1 q2), fun j q1 q2 q3 => (h2.2 j q1 q2 q3).trans (h1.2 j q1 q2 q3)⟩
theorem FrP2.rf : FrP2 M M := ⟨fun _ _ _ => rfl, fun _ _ _ _ => rfl⟩
theorem FrV.rf : FrV k M M := ⟨fun _ _ _ _ _ _ _ _ => rfl, fun _ _ _ _ _ _ => rfl, fun _ _ => ⟨rfl, rfl, rfl, rfl⟩⟩
theorem FrV.tr (h1 : FrV k M M1) (h2 : FrV k M1 M2) : FrV k M M2 := ⟨fun c q1 q2 q3 q4 q5 q6 q7 => (h2.1 c q1 q2 q3 q4 q5 q6 q7).trans (h1.1 c q1 q2 q3 q4 q5 q6 q7), fun j q1 q2 q3 q4 q5 => (h2.2.1 j q1 q2 q3 q4 q5).trans (h1.2.1 j q1 q2 q3 q4 q5), fun j q => ⟨(h2.2.2 j q).1.trans (h1.2.2 j q).1, (h2.2.2 j q).2.1.trans (h1.2.2 j q).2.1, (h2.2.2 j q).2.2.1.trans (h1.2.2 j q).2.2.1, (h2.2.2 j q).2.2.2.trans (h1.2.2 j q).2.2.2⟩⟩
theorem FrV.of (h : FrQ M M1) : FrV k M M1 := by
  refine ⟨fun c q1 _ _ _ _ q6 q7 => h.1 c q1 q6 q7, h.2, fun j _ => ?_⟩
  rw [h.1 (3, 0, 35) (by simp) (by simp) (by simp), h.1 (3, 0, 36) (by simp) (by simp) (by simp), h.1 (3, 0, 37) (by simp) (by simp) (by simp), h.1 (3, 0, 38) (by simp) (by simp) (by simp)]
  exact ⟨rfl, rfl, rfl, rfl⟩
theorem FrV.row {v : Int32} {c : am_C} (hc : c = (3, 0, 35) ∨ c = (3, 0, 36) ∨ c = (3, 0, 37) ∨ c = (3, 0, 38)) : FrV k M (am_u M c k v) := by
  rcases hc with r | r | r | r <;> subst r
  all_goals refine ⟨fun c q1 q2 q3 q4 q5 q6 q7 => am_u_o _ _ _ (by assumption), fun j _ _ _ _ _ => by rw [am_u_o _ _ _ (by simp)], fun j q => ⟨?_, ?_, ?_, ?_⟩⟩
  all_goals first | (rw [am_u_c, pk_un q]; done) | (rw [am_u_o _ _ _ (by simp)]; done)
theorem FrV.deep {v : Int32} : FrV k M (am_u M (3, 0, 0) 50 v) := by
  refine ⟨fun c q1 _ _ _ _ _ _ => am_u_o _ _ _ q1, fun j _ _ q3 _ _ => by rw [am_u_c, pk_un q3], fun j _ => ?_⟩
  rw [am_u_o _ _ _ (show ((3, 0, 35) : am_C) ≠ (3, 0, 0) by simp), am_u_o _ _ _ (show ((3, 0, 36) : am_C) ≠ (3, 0, 0) by simp), am_u_o _ _ _ (show ((3, 0, 37) : am_C) ≠ (3, 0, 0) by simp), am_u_o _ _ _ (show ((3, 0, 38) : am_C) ≠ (3, 0, 0) by simp)]
  exact ⟨rfl, rfl, rfl, rfl⟩
theorem RSt.row {v : Int32} {c : am_C} (S : RSt t n p o SS M) (hc : c = (3, 0, 35) ∨ c = (3, 0, 36) ∨ c = (3, 0, 37) ∨ c = (3, 0, 38)) : RSt t n p o SS (am_u M c k v) := by
  have e0 : am_u M c k v (3, 0, 0) = M (3, 0, 0) := am_u_o _ _ _ (by rcases hc with r | r | r | r <;> subst r <;> simp)
  have e39 : am_u M c k v (3, 0, 39) = M (3, 0, 39) := am_u_o _ _ _ (by rcases hc with r | r | r | r <;> subst r <;> simp)
  have e40 : am_u M c k v (3, 0, 40) = M (3, 0, 40) := am_u_o _ _ _ (by rcases hc with r | r | r | r <;> subst r <;> simp)
  have e44 : am_u M c k v (3, 0, 44) = M (3, 0, 44) := am_u_o _ _ _ (by rcases hc with r | r | r | r <;> subst r <;> simp)
  refine ⟨⟨by rw [e0]; exact S.r.s, S.r.b, fun i hi => by rw [e44]; exact S.r.v i hi⟩, by rw [e0]; exact S.a, by rw [e0]; exact S.d, by rw [e0]; exact S.z, S.l.cg e39 e40⟩
theorem RSt.deep0 (S : RSt t n p o SS M) : RSt t n p 0 SS (am_u M (3, 0, 0) 50 0) := by
  refine ⟨⟨?_, S.r.b, fun i hi => ?_⟩, ?_, ?_, ?_, ?_⟩
  · rw [am_u_c, pk_un (by decide)]; exact S.r.s
  · rw [am_u_o _ _ _ (by simp)]; exact S.r.v i hi
  · rw [am_u_c, pk_un (by decide)]; exact S.a
  · rw [am_u_c, pk_us]; rfl
  · rw [am_u_c, pk_un (by decide)]; exact S.z
  · exact S.l.cg (am_u_o _ _ _ (by simp)) (am_u_o _ _ _ (by simp))
theorem ty_ne {B : List (Nat × Nat)} {d : Nat} {b : Bool} (h : ∀ (τ : List Bool) (c : Nat), τ.length + d ≤ c → tyR c B τ = some (b :: τ)) : B.isEmpty = false := by
  cases B with
  | nil =>
    have := h [] d (Nat.le_of_eq (Nat.zero_add d))
    exact absurd this (by unfold tyR; simp)
  | cons a B => rfl
def ifC (B : List (Nat × Nat)) : List Int32 := if B.isEmpty = true then [1] else B.map enc
def K2 (t : Nat → Nat) (n s p : Nat) (ok : Bool) (q : Nat) (B : List (Nat × Nat)) : Prop := (TK t n q) ∧ (cs t p ≤ cs t q) ∧ (ok = true → B.length + cs t p + 1 ≤ cs t q) ∧ (ok = true → B = [] ∨ ∀ (τ : List Bool) (c : Nat), τ.length + 24 ≤ c → tyR c B τ = some (true :: τ)) ∧ (∀ (CC : List Int32) (M : am_I) (N : am_N) (post : Int32 → am_I → am_N → Prop) (c : Nat), CSt t n p CC M → M (0, 0, 7) 8 = nI c → CC.length + (cs t n - cs t p) + 1 ≤ 548 → (∀ M1, FrP2 M M1 → (ok = true → CSt t n q (CC ++ (ifC B ++ [-nI (s + 1)])) M1 ∧ M1 (0, 0, 7) 8 = nI (c + 1)) → CFl t n q M1 → post (bI ok) M1 N) → w_X7_readStatement_p49 post (nI (s + 1)) M N) ∧ (∀ (SS : List (Nat × Nat)) (M : am_I) (N : am_N) (post : Int32 → am_I → am_N → Prop) (k : Nat), k < 216 → RSt t n p 0 SS M → SS.length + (cs t n - cs t p) ≤ 6300 → (∀ M1, FrV k M M1 → RPf SS M1 → (ok = true → RSt t n q 0 (SS ++ B) M1 ∧ M1 (3, 0, 35) = M (3, 0, 35) ∧ M1 (3, 0, 36) = M (3, 0, 36) ∧ M1 (3, 0, 37) k = nI SS.length ∧ M1 (3, 0, 38) k = nI (SS.length + B.length)) → (ok = false → M1 (3, 0, 0) 49 = nI q) → post (bI ok) M1 N) → w_X12_statement_p109 post (nI k) M N)
theorem K2.tk {t : Nat → Nat} {n s p : Nat} {ok : Bool} {q : Nat} {B : List (Nat × Nat)} (h : K2 t n s p ok q B) : TK t n q := h.1
theorem K2.mo {t : Nat → Nat} {n s p : Nat} {ok : Bool} {q : Nat} {B : List (Nat × Nat)} (h : K2 t n s p ok q B) : cs t p ≤ cs t q := h.2.1
theorem K2.ln {t : Nat → Nat} {n s p : Nat} {ok : Bool} {q : Nat} {B : List (Nat × Nat)} (h : K2 t n s p ok q B) : ok = true → B.length + cs t p + 1 ≤ cs t q := h.2.2.1
theorem K2.ty {t : Nat → Nat} {n s p : Nat} {ok : Bool} {q : Nat} {B : List (Nat × Nat)} (h : K2 t n s p ok q B) : ok = true → B = [] ∨ ∀ (τ : List Bool) (c : Nat), τ.length + 24 ≤ c → tyR c B τ = some (true :: τ) := h.2.2.2.1
theorem K2.cl {t : Nat → Nat} {n s p : Nat} {ok : Bool} {q : Nat} {B : List (Nat × Nat)} (h : K2 t n s p ok q B) : ∀ (CC : List Int32) (M : am_I) (N : am_N) (post : Int32 → am_I → am_N → Prop) (c : Nat), CSt t n p CC M → M (0, 0, 7) 8 = nI c → CC.length + (cs t n - cs t p) + 1 ≤ 548 → (∀ M1, FrP2 M M1 → (ok = true → CSt t n q (CC ++ (ifC B ++ [-nI (s + 1)])) M1 ∧ M1 (0, 0, 7) 8 = nI (c + 1)) → CFl t n q M1 → post (bI ok) M1 N) → w_X7_readStatement_p49 post (nI (s + 1)) M N := h.2.2.2.2.1
theorem K2.rf {t : Nat → Nat} {n s p : Nat} {ok : Bool} {q : Nat} {B : List (Nat × Nat)} (h : K2 t n s p ok q B) : ∀ (SS : List (Nat × Nat)) (M : am_I) (N : am_N) (post : Int32 → am_I → am_N → Prop) (k : Nat), k < 216 → RSt t n p 0 SS M → SS.length + (cs t n - cs t p) ≤ 6300 → (∀ M1, FrV k M M1 → RPf SS M1 → (ok = true → RSt t n q 0 (SS ++ B) M1 ∧ M1 (3, 0, 35) = M (3, 0, 35) ∧ M1 (3, 0, 36) = M (3, 0, 36) ∧ M1 (3, 0, 37) k = nI SS.length ∧ M1 (3, 0, 38) k = nI (SS.length + B.length)) → (ok = false → M1 (3, 0, 0) 49 = nI q) → post (bI ok) M1 N) → w_X12_statement_p109 post (nI k) M N := h.2.2.2.2.2
theorem CSt.plus {c : Nat} {v : Int32} (S : CSt t n p CC M) : CSt t n p CC (am_u M (0, 0, 7) 8 v) := by
  refine ⟨⟨?_, fun i hi => ?_⟩, ?_, ?_, fun i hi => ?_⟩
  · rw [am_u_c, pk_un (by decide)]; exact S.k.k
  · rw [am_u_o _ _ _ (by simp), am_u_o _ _ _ (by simp)]; exact S.k.v i hi
  · rw [am_u_c, pk_un (by decide)]; exact S.c
  · rw [am_u_c, pk_un (by decide)]; exact S.z
  · rw [am_u_o _ _ _ (by simp)]; exact S.l i hi
theorem FrP2.plus {v : Int32} : FrP2 M (am_u M (0, 0, 7) 8 v) := ⟨fun c q1 _ => am_u_o _ _ _ q1, fun j _ _ q3 => by rw [am_u_c, pk_un q3]⟩
/-- behind the condition -/
theorem c_st75 {s c : Nat} {post : Int32 → am_I → am_N → Prop} (hn : n ≤ 500) (hk : TK t n p) (S : CSt t n p CC M) (h8 : M (0, 0, 7) 8 = nI c) (hl : tokV t n p = nI 59 → CC.length + 1 ≤ 548) (h1 : tokV t n p = nI 59 → p < n → ∀ M1, FrP2 M M1 → CSt t n (nxT t n p) (CC ++ [-nI (s + 1)]) M1 → M1 (0, 0, 7) 8 = nI (c + 1) → post 1 M1 N) (h0 : ¬ tokV t n p = nI 59 → post 0 M N) : w_X7_readStatement_p75 post (nI (s + 1)) M N := by
  unfold w_X7_readStatement_p75
  refine c_accept S hn hk (fun z M1 F1 S1 => ⟨fun _ => ?_, fun z => absurd z (by decide)⟩) (fun z => ⟨fun w => absurd rfl w, fun _ => h0 z⟩)
  have hp : p < n := tk_pos2 (x := 59) z (by decide) (by decide)
  refine c_emit (S1 hp) (by have := hl z; omega) (fun M2 F2 S2 => ?_)
  have e8 : M2 (0, 0, 7) 8 + 1 = nI (c + 1) := by
    rw [F2.2 8 (by decide) (by decide), F1.2 8 (by decide) (by decide), h8, nI_1]
  rw [e8]
  exact h1 z hp _ (((FrP2.of F1).tr (FrP2.of F2)).tr FrP2.plus) (CSt.plus (c := c) S2) (by rw [am_u_c, pk_us])
theorem r_st138 {post : Int32 → am_I → am_N → Prop} (hk : TK t n p) (S : RSt t n p 0 SS M) (h216 : k < 216) (h1 : tokV t n p = nI 59 → p < n → ∀ M1, FrV k M M1 → RSt t n (nxT t n p) 0 SS M1 → M1 (3, 0, 35) = M (3, 0, 35) → M1 (3, 0, 36) = M (3, 0, 36) → M1 (3, 0, 37) = M (3, 0, 37) → M1 (3, 0, 38) k = nI SS.length → post 1 M1 N) (h0 : ¬ tokV t n p = nI 59 → ∀ M1, FrV k M M1 → RSt t n p 0 SS M1 → M1 (3, 0, 0) 49 = nI p → post 0 M1 N) : w_X12_statement_p138 post (nI k) M N := by
  unfold w_X12_statement_p138
  rw [nI_clamp (show k < 2 ^ 31 by omega), S.z]
  have F0 : FrV k M (am_u M (3, 0, 38) k (nI SS.length)) := FrV.row (Or.inr (Or.inr (Or.inr rfl)))
  refine ⟨vp_in_nI h216 (by omega), ?_⟩
  refine q_sign (s := 59) (S.row (Or.inr (Or.inr (Or.inr rfl)))) hk (by decide) (by decide) (fun z hp M1 F1 S1 => ⟨Or.inr rfl, ?_⟩) (fun z M1 F1 S1 e1 => ⟨Or.inl rfl, h0 z M1 (F0.tr (FrV.of (FrQ.ofA F1))) S1 e1⟩)
  refine h1 z hp M1 (F0.tr (FrV.of (FrQ.ofA F1))) S1 ?_ ?_ ?_ ?_
  · rw [F1.1 _ (by simp), am_u_o _ _ _ (by simp)]
  · rw [F1.1 _ (by simp), am_u_o _ _ _ (by simp)]
  · rw [F1.1 _ (by simp), am_u_o _ _ _ (by simp)]
  · rw [F1.1 _ (by simp), am_u_c, pk_us]
theorem K2_ex {s : Nat} (hn : n ≤ 500) (hk : TK t n p) : ∃ ok q B, K2 t n s p ok q B := by
  have hpn := cs_mono (t := t) hk.1
  have rBeg : ∀ {SS : List (Nat × Nat)} {M : am_I} {N : am_N} {post : Int32 → am_I → am_N → Prop} {k : Nat}, k < 216 → RSt t n p 0 SS M → (tokV t n p = nI 5 → p < n → ∀ M1, FrV k M M1 → M1 (3, 0, 35) = M (3, 0, 35) → M1 (3, 0, 36) = M (3, 0, 36) → M1 (3, 0, 37) k = nI SS.length → RSt t n (nxT t n p) 0 SS M1 → rcM 40 0 M1 N (fun zr4 zM5 zN6 => ((¬ zr4 = 0 → w_X12_statement_p138 post (nI k) zM5 zN6) ∧ (zr4 = 0 → post 0 zM5 zN6)))) → (¬ tokV t n p = nI 5 → ∀ M1, FrV k M M1 → M1 (3, 0, 35) = M (3, 0, 35) → M1 (3, 0, 36) = M (3, 0, 36) → M1 (3, 0, 37) k = nI SS.length → RSt t n p 0 SS M1 → w_X12_statement_p138 post (nI k) M1 N) → w_X12_statement_p109 post (nI k) M N := by
    intro SS M N post k h216 S h1 h0
    unfold w_X12_statement_p109
    rw [nI_clamp (show k < 2 ^ 31 by omega), S.z]
    have F0 : FrV k M (am_u M (3, 0, 37) k (nI SS.length)) := FrV.row (Or.inr (Or.inr (Or.inl rfl)))
    have a35 : ∀ M1, FrA (am_u M (3, 0, 37) k (nI SS.length)) M1 → M1 (3, 0, 35) = M (3, 0, 35) ∧ M1 (3, 0, 36) = M (3, 0, 36) ∧ M1 (3, 0, 37) k = nI SS.length := fun M1 F1 => by
      rw [F1.1 _ (by simp), F1.1 _ (by simp), F1.1 _ (by simp), am_u_o _ _ _ (by simp), am_u_o _ _ _ (by simp), am_u_c, pk_us]
      exact ⟨rfl, rfl, rfl⟩
    refine ⟨vp_in_nI h216 (by omega), q_takes (k := 5) (S.row (Or.inr (Or.inr (Or.inl rfl)))) hk (by decide) (by decide) (fun z hp M1 F1 S1 => ⟨fun w => absurd w (by decide), fun _ => ?_⟩) (fun z M1 F1 S1 _ => ⟨fun _ => ?_, fun w => absurd rfl w⟩)⟩
    · obtain ⟨b1, b2, b3⟩ := a35 M1 F1
      exact h1 z hp M1 (F0.tr (FrV.of (FrQ.ofA F1))) b1 b2 b3 S1
    · obtain ⟨b1, b2, b3⟩ := a35 M1 F1
      exact h0 z M1 (F0.tr (FrV.of (FrQ.ofA F1))) b1 b2 b3 S1
  by_cases h5 : tokV t n p = nI 5
  · have hp : p < n := tk_pos2 h5 (by omega) (by omega)
    obtain ⟨_, k1, c1, _⟩ := nx_sp hk hp
    have hqn := cs_mono (t := t) k1.1
    obtain ⟨ok1, q1, B, A⟩ := LK_any0 hn _ k1
    have hq1 := cs_mono (t := t) A.tk.1
    have amo := A.mo
    cases ok1 with
    | false =>
      refine ⟨false, q1, [], A.tk, by omega, fun z => (nomatch z), fun z => (nomatch z), ?_, ?_⟩
      · intro CC M N post c S h8 hroom hpost
        unfold w_X7_readStatement_p49
        refine c_accept S hn hk (fun _ M1 F1 S1 => ⟨fun _ => ?_, fun z => absurd z (by decide)⟩) (fun z => absurd h5 z)
        exact A.cl 40 (Nat.le_refl _) CC M1 N _ (S1 hp) (by omega) (fun M2 F2 _ C => ⟨fun z => absurd rfl z, fun _ => hpost M2 (FrP2.of (F1.tr F2)) (fun z => (nomatch z)) C⟩)
      · intro SS M N post k h216 S hroom hpost
        refine rBeg h216 S (fun _ _ M1 F1 _ _ _ S1 => ?_) (fun z => absurd h5 z)
        exact A.rf 40 (Nat.le_refl _) SS M1 N _ S1 (by omega) (fun M2 F2 P2 _ h2 => ⟨fun z => absurd rfl z, fun _ => hpost M2 (F1.tr (FrV.of F2)) P2 (fun z => (nomatch z)) (fun _ => h2 rfl)⟩)
    | true =>
      have aln := A.ln rfl
      have bne := ty_ne (A.ty rfl)
      have eB : ifC B = B.map enc := by unfold ifC; rw [bne]; rfl
      have cBeg : ∀ {CC : List Int32} {M : am_I} {N : am_N} {post : Int32 → am_I → am_N → Prop}, CSt t n p CC M → CC.length + (cs t n - cs t p) + 1 ≤ 548 → (∀ M1, FrP1 M M1 → CSt t n q1 (CC ++ B.map enc) M1 → w_X7_readStatement_p75 post (nI (s + 1)) M1 N) → w_X7_readStatement_p49 post (nI (s + 1)) M N := by
        intro CC M N post S hroom h
        unfold w_X7_readStatement_p49
        refine c_accept S hn hk (fun _ M1 F1 S1 => ⟨fun _ => ?_, fun z => absurd z (by decide)⟩) (fun z => absurd h5 z)
        exact A.cl 40 (Nat.le_refl _) CC M1 N _ (S1 hp) (by omega) (fun M2 F2 S2 _ => ⟨fun _ => h M2 (F1.tr F2) (S2 rfl), fun z => absurd z (by decide)⟩)
      have rGo : ∀ {SS : List (Nat × Nat)} {M : am_I} {N : am_N} {post : Int32 → am_I → am_N → Prop} {k : Nat}, k < 216 → RSt t n p 0 SS M → SS.length + (cs t n - cs t p) ≤ 6300 → (∀ M1, FrV k M M1 → M1 (3, 0, 35) = M (3, 0, 35) → M1 (3, 0, 36) = M (3, 0, 36) → M1 (3, 0, 37) k = nI SS.length → RSt t n q1 0 (SS ++ B) M1 → w_X12_statement_p138 post (nI k) M1 N) → w_X12_statement_p109 post (nI k) M N := by
        intro SS M N post k h216 S hroom h
        refine rBeg h216 S (fun _ _ M1 F1 b1 b2 b3 S1 => ?_) (fun z => absurd h5 z)
        refine A.rf 40 (Nat.le_refl _) SS M1 N _ S1 (by omega) (fun M2 F2 P2 S2 _ => ⟨fun _ => h M2 (F1.tr (FrV.of F2)) ?_ ?_ ?_ (S2 rfl), fun z => absurd z (by decide)⟩)
        · rw [F2.1 _ (by simp) (by simp) (by simp)]; exact b1
        · rw [F2.1 _ (by simp) (by simp) (by simp)]; exact b2
        · rw [F2.1 _ (by simp) (by simp) (by simp)]; exact b3
      by_cases h59 : tokV t n q1 = nI 59
      · have hp2 : q1 < n := tk_pos2 h59 (by omega) (by omega)
        obtain ⟨_, k2, c2, _⟩ := nx_sp A.tk hp2
        have hq2 := cs_mono (t := t) k2.1
        refine ⟨true, nxT t n q1, B, k2, by omega, fun _ => by omega, fun _ => Or.inr (A.ty rfl), ?_, ?_⟩
        · intro CC M N post c S h8 hroom hpost
          refine cBeg S hroom (fun M1 F1 S1 => ?_)
          have ll : (CC ++ B.map enc).length = CC.length + B.length := by rw [List.length_append, List.length_map]
          refine c_st75 (c := c) hn A.tk S1 (by rw [F1.2 8 (by decide) (by decide)]; exact h8) (fun _ => by omega) (fun _ _ M2 F2 S2 e2 => hpost M2 ((FrP2.of F1).tr F2) (fun _ => ⟨?_, e2⟩) (S2.fl (by rw [List.length_append, ll, List.length_singleton]; omega))) (fun z => absurd h59 z)
          rw [eB, ← List.append_assoc]
          exact S2
        · intro SS M N post k h216 S hroom hpost
          refine rGo h216 S hroom (fun M1 F1 b1 b2 b3 S1 => ?_)
          have ll : (SS ++ B).length = SS.length + B.length := List.length_append
          refine r_st138 A.tk S1 h216 (fun _ _ M2 F2 S2 d1 d2 d3 d4 => hpost M2 (F1.tr F2) S2.l.pre (fun _ => ⟨S2, d1.trans b1, d2.trans b2, by rw [d3]; exact b3, by rw [d4, ll]⟩) (fun z => (nomatch z))) (fun z => absurd h59 z)
      · refine ⟨false, q1, [], A.tk, by omega, fun z => (nomatch z), fun z => (nomatch z), ?_, ?_⟩
        · intro CC M N post c S h8 hroom hpost
          refine cBeg S hroom (fun M1 F1 S1 => ?_)
          have ll : (CC ++ B.map enc).length = CC.length + B.length := by rw [List.length_append, List.length_map]
          exact c_st75 (c := c) hn A.tk S1 (by rw [F1.2 8 (by decide) (by decide)]; exact h8) (fun z => absurd z h59) (fun z => absurd z h59) (fun _ => hpost M1 (FrP2.of F1) (fun z => (nomatch z)) (S1.fl (by omega)))
        · intro SS M N post k h216 S hroom hpost
          refine rGo h216 S hroom (fun M1 F1 b1 b2 b3 S1 => ?_)
          exact r_st138 A.tk S1 h216 (fun z => absurd z h59) (fun _ M2 F2 S2 e2 => hpost M2 (F1.tr F2) S2.l.pre (fun z => (nomatch z)) (fun _ => e2))
  · have cBeg : ∀ {CC : List Int32} {M : am_I} {N : am_N} {post : Int32 → am_I → am_N → Prop}, CSt t n p CC M → CC.length < 548 → (∀ M1, FrP1 M M1 → CSt t n p (CC ++ [1]) M1 → w_X7_readStatement_p75 post (nI (s + 1)) M1 N) → w_X7_readStatement_p49 post (nI (s + 1)) M N := by
      intro CC M N post S hl h
      unfold w_X7_readStatement_p49
      exact c_accept S hn hk (fun z => absurd z h5) (fun _ => ⟨fun z => absurd rfl z, fun _ => c_emit S hl h⟩)
    by_cases h59 : tokV t n p = nI 59
    · have hp2 : p < n := tk_pos2 h59 (by omega) (by omega)
      obtain ⟨_, k2, c2, _⟩ := nx_sp hk hp2
      have hq2 := cs_mono (t := t) k2.1
      refine ⟨true, nxT t n p, [], k2, by omega, fun _ => by rw [List.length_nil]; omega, fun _ => Or.inl rfl, ?_, ?_⟩
      · intro CC M N post c S h8 hroom hpost
        refine cBeg S (by omega) (fun M1 F1 S1 => ?_)
        have ll : (CC ++ [(1 : Int32)]).length = CC.length + 1 := by rw [List.length_append]; rfl
        refine c_st75 (c := c) hn hk S1 (by rw [F1.2 8 (by decide) (by decide)]; exact h8) (fun _ => by omega) (fun _ _ M2 F2 S2 e2 => hpost M2 ((FrP2.of F1).tr F2) (fun _ => ⟨?_, e2⟩) (S2.fl (by rw [List.length_append, ll, List.length_singleton]; omega))) (fun z => absurd h59 z)
        rw [show ifC [] = [1] from rfl, ← List.append_assoc]
        exact S2
      · intro SS M N post k h216 S hroom hpost
        refine rBeg h216 S (fun z => absurd z h5) (fun _ M1 F1 b1 b2 b3 S1 => ?_)
        refine r_st138 hk S1 h216 (fun _ _ M2 F2 S2 d1 d2 d3 d4 => hpost M2 (F1.tr F2) S2.l (fun _ => ⟨by rw [List.append_nil]; exact S2, d1.trans b1, d2.trans b2, by rw [d3]; exact b3, d4⟩) (fun z => (nomatch z))) (fun z => absurd h59 z)
    · refine ⟨false, p, [], hk, Nat.le_refl _, fun z => (nomatch z), fun z => (nomatch z), ?_, ?_⟩
      · intro CC M N post c S h8 hroom hpost
        refine cBeg S (by omega) (fun M1 F1 S1 => ?_)
        have ll : (CC ++ [(1 : Int32)]).length = CC.length + 1 := by rw [List.length_append]; rfl
        exact c_st75 (c := c) hn hk S1 (by rw [F1.2 8 (by decide) (by decide)]; exact h8) (fun z => absurd z h59) (fun z => absurd z h59) (fun _ => hpost M1 (FrP2.of F1) (fun z => (nomatch z)) (S1.fl (by omega)))
      · intro SS M N post k h216 S hroom hpost
        refine rBeg h216 S (fun z => absurd z h5) (fun _ M1 F1 b1 b2 b3 S1 => ?_)
        exact r_st138 hk S1 h216 (fun z => absurd z h59) (fun _ M2 F2 S2 e2 => hpost M2 (F1.tr F2) S2.l (fun z => (nomatch z)) (fun _ => e2))
end ST
