/-! ===== the first statement that holds ===== -/
def aSL (x : SX) : List (Nat × Nat) := if x.1 = 3 then x.2.1 else [(0, 0)]
def bSL (x : SX) : List (Nat × Nat) := if x.2.2.isEmpty = true then [(0, 1)] else x.2.2
def hbB (fa : Nat → Int) (x : SX) : Bool := x.2.2.isEmpty || (ev fa x.2.2 []).headD 0 == 1
def vmI (fa : Nat → Int) (x : SX) : Int := if x.1 = 3 then (ev fa x.2.1 []).headD 0 else 0
def sel (fa : Nat → Int) : List SX → Nat → Option (Nat × SX)
  | [], _ => none
  | x :: PP, k => if hbB fa x = true then some (k, x) else sel fa PP (k + 1)
def FrD (M M1 : am_I) : Prop := (∀ c : am_C, c ≠ (0, 0, 12) → c ≠ (0, 0, 14) → M1 c = M c) ∧ ∀ j, j ≠ 4 → j ≠ 5 → j ≠ 6 → j ≠ 7 → M1 (0, 0, 12) j = M (0, 0, 12) j
section DC
variable {fa : Nat → Int} {x : SX} {s s2 : List Int} {τ σ : List Bool} {M M1 M2 : am_I} {N N1 N2 : am_N} {v l r : Int} {post : Int32 → am_I → am_N → Prop} {postL : Int64 → am_I → am_N → Prop} {i j C e k : Nat} {PP : List SX}
theorem cd_eq : cdS x = (aSL x ++ bSL x).map enc ++ [-nI (x.1 + 1)] := by
  unfold cdS aSL bSL
  rw [List.map_append, List.append_assoc]
  by_cases h1 : x.1 = 3
  · rw [if_pos h1, if_pos h1]
    by_cases h2 : x.2.2.isEmpty = true
    · rw [if_pos h2, if_pos h2]; rfl
    · rw [if_neg h2, if_neg h2]
  · rw [if_neg h1, if_neg h1]
    by_cases h2 : x.2.2.isEmpty = true
    · rw [if_pos h2, if_pos h2]; rfl
    · rw [if_neg h2, if_neg h2]; rfl
theorem ev_app : ∀ (A B : List (Nat × Nat)) (s : List Int), ev fa (A ++ B) s = ev fa B (ev fa A s)
  | [], _, _ => rfl
  | y :: A, B, s => ev_app A B (evI fa y s)
theorem evI_fr {y : Nat × Nat} (ht : tyI y τ = some σ) (V : VT s τ) (hf : ∀ a, a < 8 → sml (fa a)) : evI fa y (s ++ s2) = evI fa y s ++ s2 ∧ VT (evI fa y s) σ := by
  rcases ty_cases ht V hf with ⟨e0, _, ee, v⟩ | ⟨e1, _, ee, v⟩ | ⟨e11, v0, s3, es, _, ee, v⟩ | ⟨h2, h10, r, l, s3, es, _, _, _, ee, v⟩
  · refine ⟨?_, v⟩
    rw [ee]
    unfold evI
    rw [if_pos e0]; rfl
  · refine ⟨?_, v⟩
    rw [ee]
    unfold evI
    rw [if_neg (by omega), if_pos e1]; rfl
  · refine ⟨?_, v⟩
    rw [ee, es]
    unfold evI
    rw [if_neg (by omega), if_neg (by omega), if_pos e11]; rfl
  · refine ⟨?_, v⟩
    rw [ee, es]
    unfold evI
    rw [if_neg (by omega), if_neg (by omega), if_neg (by omega)]; rfl
theorem ev_fr {c : Nat} (hf : ∀ a, a < 8 → sml (fa a)) : ∀ (E : List (Nat × Nat)) (s : List Int) (τ σ : List Bool), tyR c E τ = some σ → VT s τ → ev fa E (s ++ s2) = ev fa E s ++ s2 ∧ VT (ev fa E s) σ
  | [], s, τ, σ, ht, V => by
    have e : τ = σ := Option.some.inj ht
    subst e
    exact ⟨rfl, V⟩
  | y :: E, s, τ, σ, ht, V => by
    rw [tyR_cons] at ht
    cases hx : tyI y τ with
    | none => rw [hx] at ht; exact absurd ht (by simp)
    | some ρ =>
      rw [hx] at ht
      simp only at ht
      by_cases hρ : ρ.length ≤ c
      · rw [if_pos hρ] at ht
        obtain ⟨e1, V1⟩ := evI_fr (s2 := s2) hx V hf
        obtain ⟨e2, V2⟩ := ev_fr hf E (evI fa y s) ρ σ ht V1
        refine ⟨?_, V2⟩
        show ev fa E (evI fa y (s ++ s2)) = _
        rw [e1, e2]; rfl
      · rw [if_neg hρ] at ht; exact absurd ht (by simp)
theorem VT_one {b : Bool} (h : VT s [b]) : s = [s.headD 0] := by
  cases s with
  | nil => exact h.elim
  | cons v s =>
    cases s with
    | nil => rfl
    | cons w s => exact h.2.elim
/-- what the two lists of a statement come to -/
theorem st_vals (hf : ∀ a, a < 8 → sml (fa a)) (K : okS x) : ∃ b c, tyR 60 (aSL x ++ bSL x) [] = some [b, false] ∧ ev fa (aSL x ++ bSL x) [] = [c, vmI fa x] ∧ (hbB fa x = true ↔ ¬ c = 0) ∧ sml c ∧ sml (vmI fa x) := by
  have hA : tyR 60 (aSL x) [] = some [false] ∧ ev fa (aSL x) [] = [vmI fa x] ∧ sml (vmI fa x) := by
    unfold aSL vmI
    by_cases h3 : x.1 = 3
    · rw [if_pos h3, if_pos h3]
      have t := K.g h3 [] 60 (by show 0 + 21 ≤ 60; omega)
      have V := (ev_fr (s2 := []) hf x.2.1 [] [] [false] t trivial).2
      exact ⟨t, VT_one V, by rw [VT_one V] at V; exact V.1⟩
    · rw [if_neg h3, if_neg h3]
      exact ⟨rfl, rfl, ⟨by decide, by decide⟩⟩
  obtain ⟨a1, a2, a3⟩ := hA
  by_cases he : x.2.2.isEmpty = true
  · have hb : bSL x = [(0, 1)] := by unfold bSL; rw [if_pos he]
    refine ⟨false, 1, ?_, ?_, ⟨fun _ => by decide, fun _ => by unfold hbB; rw [he]; rfl⟩, ⟨by decide, by decide⟩, a3⟩
    · rw [hb, tyR_app _ _ _ _ a1]; rfl
    · rw [hb, ev_app, a2]; rfl
  · have hb : bSL x = x.2.2 := by unfold bSL; rw [if_neg he]
    have t := K.b.resolve_left (fun w => he (by rw [w]; rfl))
    have t1 := t [false] 60 (by show 1 + 24 ≤ 60; omega)
    have t0 := t [] 60 (by show 0 + 24 ≤ 60; omega)
    obtain ⟨e1, V⟩ := ev_fr (s2 := [vmI fa x]) hf x.2.2 [] [] [true] t0 trivial
    have e2 := VT_one V
    have hbit : (ev fa x.2.2 []).headD 0 = 0 ∨ (ev fa x.2.2 []).headD 0 = 1 := by rw [e2] at V; exact V.1
    refine ⟨true, (ev fa x.2.2 []).headD 0, ?_, ?_, ?_, ?_, a3⟩
    · rw [hb, tyR_app _ _ _ _ a1]; exact t1
    · rw [hb, ev_app, a2]
      have e1' : ev fa x.2.2 [vmI fa x] = ev fa x.2.2 [] ++ [vmI fa x] := e1
      rw [e1']
      conv => lhs; rw [e2]
      rfl
    · have : x.2.2.isEmpty = false := by
        cases h : x.2.2.isEmpty with
        | true => exact absurd h he
        | false => rfl
      unfold hbB
      rw [this, Bool.false_or, beq_iff_eq]
      omega
    · rcases hbit with w | w <;> rw [w] <;> exact ⟨by decide, by decide⟩
theorem FrD.rf : FrD M M := ⟨fun _ _ _ => rfl, fun _ _ _ _ _ => rfl⟩
theorem FrD.tr (h1 : FrD M M1) (h2 : FrD M1 M2) : FrD M M2 := ⟨fun c q1 q2 => (h2.1 c q1 q2).trans (h1.1 c q1 q2), fun j q1 q2 q3 q4 => (h2.2 j q1 q2 q3 q4).trans (h1.2 j q1 q2 q3 q4)⟩
theorem FrD.ofE (h : FrE M M1) : FrD M M1 := ⟨h.1, fun j q1 _ _ _ => h.2 j q1⟩
theorem gd_lr {α : Type} {A B : List α} {d : α} {i : Nat} : (A ++ B).getD (A.length + i) d = B.getD i d := by
  rw [List.getD_eq_getElem?_getD, List.getD_eq_getElem?_getD, List.getElem?_append_right (Nat.le_add_right _ _), Nat.add_sub_cancel_left]
theorem gd_map {α β : Type} {f : α → β} {A : List α} {d : α} {e : β} {i : Nat} (h : i < A.length) : (A.map f).getD i e = f (A.getD i d) := by
  rw [List.getD_eq_getElem?_getD, List.getD_eq_getElem?_getD, List.getElem?_map, List.getElem?_eq_getElem h]
  rfl
theorem c_dec (hf : ∀ a, a < 8 → sml (fa a)) (hC : C ≤ 548) : ∀ (PP : List SX) (i k j : Nat) (M : am_I), (∀ x, x ∈ PP → okS x) → StC2 fa [] M → M (0, 0, 12) 5 = nI k → M (0, 0, 12) 2 = nI C → i + (PP.flatMap cdS).length = C → (∀ m, m < (PP.flatMap cdS).length → M (0, 0, 13) (i + m) = (PP.flatMap cdS).getD m 0) → (PP.flatMap cdS).length < j → (sel fa PP k = none → ∀ M1, FrD M M1 → post 0 M1 N) → (∀ k' x, sel fa PP k = some (k', x) → ∀ M1, FrD M M1 → M1 (0, 0, 12) 5 = nI k' → M1 (0, 0, 12) 6 = nI x.1 → M1 (0, 0, 12) 7 = iI (vmI fa x) → post 1 M1 N) → w_X3_decide_p12 post j (nI i) M N
  | [], i, k, j, M, hok, S, e5, e2, hi, hm, hj, h0, h1 => by
    have hi' : i + 0 = C := hi
    obtain ⟨j', rfl⟩ : ∃ j', j = j' + 1 := ⟨j - 1, by omega⟩
    rw [w_X3_decide_p12_s]
    unfold w_X3_decide_p12_b
    rw [e2]
    exact ⟨fun _ => h0 rfl M FrD.rf, fun z => absurd (nI_le (by omega) (by omega)) z⟩
  | x :: PP, i, k, j, M, hok, S, e5, e2, hi, hm, hj, h0, h1 => by
    have K : okS x := hok x List.mem_cons_self
    obtain ⟨b, c, ht, hv, hb, sc, sv⟩ := st_vals hf K
    have ec : (x :: PP).flatMap cdS = (aSL x ++ bSL x).map enc ++ ([-nI (x.1 + 1)] ++ PP.flatMap cdS) := by
      rw [List.flatMap_cons, cd_eq, List.append_assoc]
    generalize hE : aSL x ++ bSL x = E at ht hv ec
    rw [ec] at hi hm hj
    have ll : (E.map enc ++ ([-nI (x.1 + 1)] ++ PP.flatMap cdS)).length = E.length + (1 + (PP.flatMap cdS).length) := by
      rw [List.length_append, List.length_append, List.length_map, List.length_singleton]
    rw [ll] at hi hm hj
    obtain ⟨j', rfl⟩ : ∃ j', j = j' + 1 + E.length := ⟨j - 1 - E.length, by omega⟩
    refine c_run hf hC E i (j' + 1) [] [] [b, false] M ht (by decide) trivial S e2 (by omega) (fun m hmm => ?_) (fun M1 F1 S1 V1 => ?_)
    · rw [hm m (by omega), gd_l (by rw [List.length_map]; exact hmm), gd_map hmm]
    · rw [hv] at S1
      have hx4 := K.s
      have hd : M1 (0, 0, 13) (i + E.length) = -nI (x.1 + 1) := by
        rw [F1.1 _ (by simp) (by simp), hm E.length (by omega)]
        have := gd_lr (A := E.map enc) (B := [-nI (x.1 + 1)] ++ PP.flatMap cdS) (d := 0) (i := 0)
        rw [List.length_map] at this
        exact this
      have n0 : -nI (x.1 + 1) < 0 := (sb_nlt (b := 0) (by omega) (by omega)).mpr (by omega)
      have n4 : ¬ -nI (x.1 + 1) < (-4) := fun z => by
        have := (sb_nlt (a := x.1 + 1) (b := 4) (by omega) (by omega)).mp z
        omega
      rw [w_X3_decide_p12_s]
      unfold w_X3_decide_p12_b
      rw [F1.2 2 (by decide), e2, nI_clamp (show i + E.length < 2 ^ 31 by omega), nI_1]
      refine ⟨fun z => absurd z (nI_ge (by omega) (by omega)), fun _ => ⟨vp_in_nI (by omega) (by omega), fun zv hz => ?_⟩⟩
      rw [hd] at hz
      subst hz
      refine ⟨fun _ => ⟨fun z => absurd z n4, fun _ => c_pop S1 (show 1 < 64 by decide) (fun M2 F2 S2 => c_pop S2 (show 0 < 64 by decide) (fun M3 F3 S3 => ?_))⟩, fun z => absurd n0 z⟩
      have e6 : -(-nI (x.1 + 1)) - 1 = nI x.1 := by rw [Int32.neg_neg, nI_pred]
      rw [e6]
      have p7 : am_u (am_u M3 (0, 0, 12) 7 (iI (vmI fa x))) (0, 0, 12) 6 (nI x.1) (0, 0, 12) 7 = iI (vmI fa x) := by rw [am_u_c, pk_un (by decide), am_u_c, pk_us]
      have p6 : am_u (am_u M3 (0, 0, 12) 7 (iI (vmI fa x))) (0, 0, 12) 6 (nI x.1) (0, 0, 12) 6 = nI x.1 := by rw [am_u_c, pk_us]
      have pj : ∀ j, j ≠ 6 → j ≠ 7 → am_u (am_u M3 (0, 0, 12) 7 (iI (vmI fa x))) (0, 0, 12) 6 (nI x.1) (0, 0, 12) j = M3 (0, 0, 12) j := fun j q1 q2 => by rw [am_u_c, pk_un q1, am_u_c, pk_un q2]
      have pc : ∀ c : am_C, c ≠ (0, 0, 12) → am_u (am_u M3 (0, 0, 12) 7 (iI (vmI fa x))) (0, 0, 12) 6 (nI x.1) c = M3 c := fun c q => by rw [am_u_o _ _ _ q, am_u_o _ _ _ q]
      generalize am_u (am_u M3 (0, 0, 12) 7 (iI (vmI fa x))) (0, 0, 12) 6 (nI x.1) = M4 at p7 p6 pj pc ⊢
      have FE : FrE M M3 := (F1.tr F2).tr F3
      have e5' : M4 (0, 0, 12) 5 = nI k := by rw [pj 5 (by decide) (by decide), FE.2 5 (by decide)]; exact e5
      have F4 : FrD M M4 := (FrD.ofE FE).tr ⟨fun c q1 _ => pc c q1, fun j _ _ q3 q4 => pj j q3 q4⟩
      have c0 : iI c = 0 ↔ c = 0 := by
        refine ⟨fun z => ?_, fun z => by rw [z]; rfl⟩
        have := congrArg Int32.toInt z
        rw [iI_t sc] at this
        exact this
      refine ⟨fun z => ?_, fun z => ?_⟩
      · rw [e5', nI_1]
        have hn : ¬ hbB fa x = true := fun w => hb.mp w (c0.mp z)
        have es : sel fa (x :: PP) k = sel fa PP (k + 1) := by
          show (if hbB fa x = true then some (k, x) else sel fa PP (k + 1)) = _
          rw [if_neg hn]
        rw [es] at h0 h1
        have q5 : am_u M4 (0, 0, 12) 5 (nI (k + 1)) (0, 0, 12) 5 = nI (k + 1) := by rw [am_u_c, pk_us]
        have qj : ∀ j, j ≠ 5 → am_u M4 (0, 0, 12) 5 (nI (k + 1)) (0, 0, 12) j = M4 (0, 0, 12) j := fun j q => by rw [am_u_c, pk_un q]
        have qc : ∀ c : am_C, c ≠ (0, 0, 12) → am_u M4 (0, 0, 12) 5 (nI (k + 1)) c = M4 c := fun c q => am_u_o _ _ _ q
        generalize am_u M4 (0, 0, 12) 5 (nI (k + 1)) = M5 at q5 qj qc ⊢
        have F5 : FrD M M5 := F4.tr ⟨fun c q1 _ => qc c q1, fun j _ q2 _ _ => qj j q2⟩
        refine c_dec hf hC PP (i + E.length + 1) (k + 1) j' M5 (fun y hy => hok y (List.mem_cons_of_mem _ hy)) ⟨?_, trivial, fun a ha => ?_⟩ q5 ?_ (by omega) (fun m hmm => ?_) (by omega) (fun z M6 F6 => h0 z M6 (F5.tr F6)) (fun k' y z M6 F6 => h1 k' y z M6 (F5.tr F6))
        · rw [qj 4 (by decide), pj 4 (by decide) (by decide)]; exact S3.n
        · rw [qc _ (by simp), pc _ (by simp)]; exact S3.f a ha
        · rw [F5.2 2 (by decide) (by decide) (by decide) (by decide)]; exact e2
        · rw [F5.1 _ (by simp) (by simp), show i + E.length + 1 + m = i + (E.length + (1 + m)) by omega, hm _ (by omega)]
          have g1 := gd_lr (A := E.map enc) (B := [-nI (x.1 + 1)] ++ PP.flatMap cdS) (d := 0) (i := 1 + m)
          have g2 := gd_lr (A := [-nI (x.1 + 1)]) (B := PP.flatMap cdS) (d := 0) (i := m)
          rw [List.length_map] at g1
          rw [g1]
          exact g2
      · have hy : hbB fa x = true := hb.mpr (fun w => z (c0.mpr w))
        have es : sel fa (x :: PP) k = some (k, x) := by
          show (if hbB fa x = true then some (k, x) else sel fa PP (k + 1)) = _
          rw [if_pos hy]
        exact h1 k x es M4 F4 e5' p6 p7
end DC
