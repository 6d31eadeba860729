/-! ===== Arrays.fill, by hand ===== -/
theorem am_s_s {α : Type} (M : am_C → Nat → α) (a : am_C) (f g : Nat → α) : am_s (am_s M a f) a g = am_s M a g := by
  funext c
  by_cases h : c = a <;> simp [am_s, h]
theorem am_s_id {α : Type} (M : am_C → Nat → α) (a : am_C) : am_s M a (M a) = M := by
  funext c
  by_cases h : c = a
  · subst h; simp [am_s]
  · simp [am_s, h]
theorem am_fill_loop {d n : Nat} {dm : List am_C} {a : am_C} (hc : a ∈ dm) (hly : am_ly a = (0, n)) (hn : n < 2147483648) {v : Int32} {N : am_N} {M : am_I} :
    ∀ (k i : Nat), i + k = n → jg (d + 1) mJ7_fill_53178 dm 5 [(3, .inl (nI n)), (2, .inl (nI i)), (0, .inr (.inr a)), (1, .inl v)] [] (am_s M a (fun j => if j < i then v else M a j)) N (fun o M' N' => o = none ∧ M' = am_fill M a n v ∧ N' = N) := by
  intro k
  induction k with
  | zero =>
    intro i hi
    refine j_iload_n 1 dJ7_fill_53178_5 rfl ?_
    refine j_iload_n 0 dJ7_fill_53178_6 rfl ?_
    refine j_icmp_ge (tgt := 20) dJ7_fill_53178_7 (by decide) (fun h => ?_) (fun h => ?_)
    · have e : i = n := by omega
      subst e
      exact j_vret dJ7_fill_53178_20 rfl ⟨rfl, rfl, rfl⟩
    · exact absurd (nI_le (show n ≤ i by omega) (by omega)) h
  | succ k ih =>
    intro i hi
    refine j_iload_n 1 dJ7_fill_53178_5 rfl ?_
    refine j_iload_n 0 dJ7_fill_53178_6 rfl ?_
    refine j_icmp_ge (tgt := 20) dJ7_fill_53178_7 (by decide) (fun h => ?_) (fun h => ?_)
    · exact absurd h (nI_ge (show i < n by omega) (by omega))
    · refine j_aload_n 2 dJ7_fill_53178_10 rfl ?_
      refine j_iload_n 1 dJ7_fill_53178_11 rfl ?_
      refine j_iload_n 3 dJ7_fill_53178_12 rfl ?_
      refine j_iast dJ7_fill_53178_13 hc hly (vp_in_nI (show i < n by omega) (by omega)) ?_
      refine j_iinc 1 dJ7_fill_53178_14 (v := nI (i + 1)) rfl (by rw [nI_succ]; rfl) (by decide) rfl ?_
      refine j_goto (tgt := 5) dJ7_fill_53178_17 (by decide) ?_
      refine j_sub [1, 0, 2, 3] rfl ?_
      have e : am_u (am_s M a (fun j => if j < i then v else M a j)) a (nI i).toNatClampNeg v = am_s M a (fun j => if j < i + 1 then v else M a j) := by
        rw [nI_clamp (by omega)]
        unfold am_u
        rw [am_s_s, am_s_same]
        congr 1
        funext j
        unfold upd
        by_cases h1 : j = i
        · subst h1; simp
        · by_cases h2 : j < i
          · simp [h1, h2, show j < i + 1 by omega]
          · simp [h1, h2, show ¬ j < i + 1 by omega]
      rw [e]
      exact ih (i + 1) (by omega)
theorem k_J7_fill_53178 {d n : Nat} {dm : List am_C} {a : am_C} (hc : a ∈ dm) (hly : am_ly a = (0, n)) (hn : n < 2147483648) {v : Int32} {M : am_I} {N : am_N} :
    jg (d + 1) mJ7_fill_53178 dm 0 [(0, .inr (.inr a)), (1, .inl v)] [] M N (fun o M' N' => o = none ∧ M' = am_fill M a n v ∧ N' = N) := by
  refine j_iconst (v := 0) dJ7_fill_53178_0 (by decide) ?_
  refine j_istore_n dJ7_fill_53178_1 (by decide) rfl ?_
  refine j_aload_n 1 dJ7_fill_53178_2 rfl ?_
  refine j_aleni (v := nI n) dJ7_fill_53178_3 hc hly rfl ?_
  refine j_istore_n dJ7_fill_53178_4 (by decide) rfl ?_
  have h := am_fill_loop (d := d) hc hly hn (v := v) (N := N) (M := M) n 0 (by omega)
  have e : am_s M a (fun j => if j < 0 then v else M a j) = M := by
    simp only [Nat.not_lt_zero, if_false]
    exact am_s_id M a
  rw [e] at h
  exact h
theorem am_fill_loopL {d n : Nat} {dm : List am_C} {a : am_C} (hc : a ∈ dm) (hly : am_ly a = (1, n)) (hn : n < 2147483648) {v : Int64} {N : am_N} {M : am_I} :
    ∀ (k i : Nat), i + k = n → jg (d + 1) mJ7_fill_d0a16 dm 6 [(4, .inl (nI n)), (3, .inl (nI i)), (0, .inr (.inr a)), (1, .inr (.inl v))] [] M (am_s N a (fun j => if j < i then v else N a j)) (fun o M' N' => o = none ∧ M' = M ∧ N' = am_fill N a n v) := by
  intro k
  induction k with
  | zero =>
    intro i hi
    refine j_iload_n 1 dJ7_fill_d0a16_6 rfl ?_
    refine j_iload 0 dJ7_fill_d0a16_7 rfl ?_
    refine j_icmp_ge (tgt := 22) dJ7_fill_d0a16_9 (by decide) (fun h => ?_) (fun h => ?_)
    · have e : i = n := by omega
      subst e
      exact j_vret dJ7_fill_d0a16_22 rfl ⟨rfl, rfl, rfl⟩
    · exact absurd (nI_le (show n ≤ i by omega) (by omega)) h
  | succ k ih =>
    intro i hi
    refine j_iload_n 1 dJ7_fill_d0a16_6 rfl ?_
    refine j_iload 0 dJ7_fill_d0a16_7 rfl ?_
    refine j_icmp_ge (tgt := 22) dJ7_fill_d0a16_9 (by decide) (fun h => ?_) (fun h => ?_)
    · exact absurd h (nI_ge (show i < n by omega) (by omega))
    · refine j_aload_n 2 dJ7_fill_d0a16_12 rfl ?_
      refine j_iload_n 1 dJ7_fill_d0a16_13 rfl ?_
      refine j_lload_n 3 dJ7_fill_d0a16_14 rfl ?_
      refine j_last dJ7_fill_d0a16_15 hc hly (vp_in_nI (show i < n by omega) (by omega)) ?_
      refine j_iinc 1 dJ7_fill_d0a16_16 (v := nI (i + 1)) rfl (by rw [nI_succ]; rfl) (by decide) rfl ?_
      refine j_goto (tgt := 6) dJ7_fill_d0a16_19 (by decide) ?_
      refine j_sub [1, 0, 2, 3] rfl ?_
      have e : am_ul (am_s N a (fun j => if j < i then v else N a j)) a (nI i).toNatClampNeg v = am_s N a (fun j => if j < i + 1 then v else N a j) := by
        rw [nI_clamp (by omega)]
        unfold am_ul
        rw [am_s_s, am_s_same]
        congr 1
        funext j
        unfold vp_updL
        by_cases h1 : j = i
        · subst h1; simp
        · by_cases h2 : j < i
          · simp [h1, h2, show j < i + 1 by omega]
          · simp [h1, h2, show ¬ j < i + 1 by omega]
      rw [e]
      exact ih (i + 1) (by omega)
theorem k_J7_fill_d0a16 {d n : Nat} {dm : List am_C} {a : am_C} (hc : a ∈ dm) (hly : am_ly a = (1, n)) (hn : n < 2147483648) {v : Int64} {M : am_I} {N : am_N} :
    jg (d + 1) mJ7_fill_d0a16 dm 0 [(0, .inr (.inr a)), (1, .inr (.inl v))] [] M N (fun o M' N' => o = none ∧ M' = M ∧ N' = am_fill N a n v) := by
  refine j_iconst (v := 0) dJ7_fill_d0a16_0 (by decide) ?_
  refine j_istore_n dJ7_fill_d0a16_1 (by decide) rfl ?_
  refine j_aload_n 1 dJ7_fill_d0a16_2 rfl ?_
  refine j_alenl (v := nI n) dJ7_fill_d0a16_3 hc hly rfl ?_
  refine j_istore dJ7_fill_d0a16_4 (by decide) rfl ?_
  have h := am_fill_loopL (d := d) hc hly hn (v := v) (N := N) (M := M) n 0 (by omega)
  have e : am_s N a (fun j => if j < 0 then v else N a j) = N := by
    simp only [Nat.not_lt_zero, if_false]
    exact am_s_id N a
  rw [e] at h
  exact h
