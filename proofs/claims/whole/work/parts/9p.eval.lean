/-! ===== evaluation, step by step ===== -/
def evI (fa : Nat → Int) (x : Nat × Nat) (s : List Int) : List Int :=
  if x.1 = 0 then (x.2 : Int) :: s else if x.1 = 1 then fa x.2 :: s else if x.1 = 11 then (match s with | v :: s2 => (if v = 0 then 1 else 0) :: s2 | [] => []) else (match s with | r :: l :: s2 => opI x.1 l r :: s2 | _ => [])
def ev (fa : Nat → Int) : List (Nat × Nat) → List Int → List Int
  | [], s => s
  | x :: E, s => ev fa E (evI fa x s)
def VT : List Int → List Bool → Prop
  | [], [] => True
  | v :: s, b :: τ => (if b = true then v = 0 ∨ v = 1 else sml v) ∧ VT s τ
  | _, _ => False
def StkC : List Int → am_I → Prop
  | [], _ => True
  | v :: s, M => M (0, 0, 14) s.length = iI v ∧ StkC s M
def StkR : List Int → am_N → Prop
  | [], _ => True
  | v :: s, N => N (3, 0, 41) s.length = iL v ∧ StkR s N
def FrE (M M1 : am_I) : Prop := (∀ c : am_C, c ≠ (0, 0, 12) → c ≠ (0, 0, 14) → M1 c = M c) ∧ ∀ j, j ≠ 4 → M1 (0, 0, 12) j = M (0, 0, 12) j
def FrN (N N1 : am_N) : Prop := ∀ c : am_C, c ≠ (3, 0, 41) → N1 c = N c
def StC2 (fa : Nat → Int) (s : List Int) (M : am_I) : Prop := (M (0, 0, 12) 4 = nI s.length) ∧ (StkC s M) ∧ (∀ a, a < 8 → M (0, 0, 16) a = iI (fa a))
theorem StC2.n {fa : Nat → Int} {s : List Int} {M : am_I} (h : StC2 fa s M) : M (0, 0, 12) 4 = nI s.length := h.1
theorem StC2.s {fa : Nat → Int} {s : List Int} {M : am_I} (h : StC2 fa s M) : StkC s M := h.2.1
theorem StC2.f {fa : Nat → Int} {s : List Int} {M : am_I} (h : StC2 fa s M) : ∀ a, a < 8 → M (0, 0, 16) a = iI (fa a) := h.2.2
section EV
variable {fa : Nat → Int} {x : Nat × Nat} {s s2 : List Int} {τ σ : List Bool} {M M1 M2 : am_I} {N N1 N2 : am_N} {v l r : Int} {b : Bool} {post : am_I → am_N → Prop} {postI : Int32 → am_I → am_N → Prop}
theorem VT.len : ∀ {s : List Int} {τ : List Bool}, VT s τ → s.length = τ.length
  | [], [], _ => rfl
  | v :: s, b :: τ, h => by
    rw [List.length_cons, List.length_cons, VT.len h.2]
  | [], b :: τ, h => h.elim
  | v :: s, [], h => h.elim
theorem VT.smv (h : VT (v :: s) (b :: τ)) : sml v := by
  have h1 : if b = true then v = 0 ∨ v = 1 else sml v := h.1
  cases b with
  | false => exact h1
  | true =>
    rcases h1 with e | e <;> subst e
    · exact ⟨by decide, by decide⟩
    · exact ⟨by decide, by decide⟩
theorem VT.bit (h : VT (v :: s) (true :: τ)) : v = 0 ∨ v = 1 := h.1
theorem VT.inv {τ : List Bool} (h : VT s (b :: τ)) : ∃ v s2, s = v :: s2 ∧ VT s2 τ := by
  cases s with
  | nil => exact h.elim
  | cons v s2 => exact ⟨v, s2, rfl, h.2⟩
theorem FrE.rf : FrE M M := ⟨fun _ _ _ => rfl, fun _ _ => rfl⟩
theorem FrE.tr (h1 : FrE M M1) (h2 : FrE M1 M2) : FrE M M2 := ⟨fun c q1 q2 => (h2.1 c q1 q2).trans (h1.1 c q1 q2), fun j q => (h2.2 j q).trans (h1.2 j q)⟩
theorem FrN.tr (h1 : FrN N N1) (h2 : FrN N1 N2) : FrN N N2 := fun c q => (h2 c q).trans (h1 c q)
theorem StkC.cg : ∀ {s : List Int}, StkC s M → (∀ i, i < s.length → M1 (0, 0, 14) i = M (0, 0, 14) i) → StkC s M1
  | [], _, _ => trivial
  | v :: s, h, e => ⟨(e s.length (by rw [List.length_cons]; omega)).trans h.1, StkC.cg h.2 (fun i hi => e i (by rw [List.length_cons]; omega))⟩
theorem StkR.cg : ∀ {s : List Int}, StkR s N → (∀ i, i < s.length → N1 (3, 0, 41) i = N (3, 0, 41) i) → StkR s N1
  | [], _, _ => trivial
  | v :: s, h, e => ⟨(e s.length (by rw [List.length_cons]; omega)).trans h.1, StkR.cg h.2 (fun i hi => e i (by rw [List.length_cons]; omega))⟩
theorem c_push (S : StC2 fa s M) (hl : s.length < 64) (h : ∀ M1, FrE M M1 → StC2 fa (v :: s) M1 → post M1 N) : w_X3_push (iI v) M N post := by
  unfold w_X3_push
  have s14 : ∀ (g : am_I) (i : Nat) (x : Int32), am_u g (0, 0, 14) i x (0, 0, 12) = g (0, 0, 12) := fun g i x => am_u_o _ _ _ (by simp)
  rw [s14, S.n, nI_clamp (show s.length < 2 ^ 31 by omega), nI_1]
  refine ⟨fun z => absurd z (nI_ge (b := 64) hl (by omega)), fun _ => ⟨vp_in_nI hl (by omega), h _ ⟨fun c q1 q2 => by rw [am_u_o _ _ _ q1, am_u_o _ _ _ q2], fun j q => by rw [am_u_c, pk_un q, s14]⟩ ⟨by rw [am_u_c, pk_us]; rfl, ⟨?_, S.s.cg fun i hi => ?_⟩, fun a ha => ?_⟩⟩⟩
  · rw [am_u_o _ _ _ (by simp), am_u_c, pk_us]
  · rw [am_u_o _ _ _ (by simp), am_u_c, pk_un (by omega)]
  · rw [am_u_o _ _ _ (by simp), am_u_o _ _ _ (by simp)]; exact S.f a ha
theorem c_pop (S : StC2 fa (v :: s) M) (hl : s.length < 64) (h : ∀ M1, FrE M M1 → StC2 fa s M1 → postI (iI v) M1 N) : w_X3_pop M N postI := by
  unfold w_X3_pop
  have e4 : M (0, 0, 12) 4 = nI (s.length + 1) := S.n
  rw [e4, nI_pred]
  have f4 : am_u M (0, 0, 12) 4 (nI s.length) (0, 0, 12) 4 = nI s.length := by rw [am_u_c, pk_us]
  have f14 : am_u M (0, 0, 12) 4 (nI s.length) (0, 0, 14) = M (0, 0, 14) := am_u_o _ _ _ (by simp)
  rw [f4, f14, nI_clamp (show s.length < 2 ^ 31 by omega), S.s.1]
  refine ⟨fun _ => ⟨vp_in_nI hl (by omega), h _ ⟨fun c q1 _ => am_u_o _ _ _ q1, fun j q => by rw [am_u_c, pk_un q]⟩ ⟨f4, S.s.2.cg fun i _ => by rw [f14], fun a ha => ?_⟩⟩, fun z => absurd (nI_lt (a := 0) (by omega) (by omega)) z⟩
  rw [am_u_o _ _ _ (by simp)]; exact S.f a ha
theorem tyI_len {c : Nat} (h : tyI x τ = some σ) : τ.length ≤ σ.length + 1 := by
  unfold tyI at h
  by_cases h0 : x.1 = 0
  · rw [if_pos h0] at h
    by_cases hm : x.2 < 100000
    · rw [if_pos hm] at h; rw [← Option.some.inj h, List.length_cons]; omega
    · rw [if_neg hm] at h; exact absurd h (by simp)
  rw [if_neg h0] at h
  by_cases h1 : x.1 = 1
  · rw [if_pos h1] at h
    by_cases hm : x.2 < 8
    · rw [if_pos hm] at h; rw [← Option.some.inj h, List.length_cons]; omega
    · rw [if_neg hm] at h; exact absurd h (by simp)
  rw [if_neg h1] at h
  by_cases h5 : x.1 ≤ 5
  · rw [if_pos h5] at h
    split at h
    · rw [← Option.some.inj h]; simp only [List.length_cons]; omega
    · exact absurd h (by simp)
  rw [if_neg h5] at h
  by_cases h8 : x.1 ≤ 8
  · rw [if_pos h8] at h
    split at h
    · rw [← Option.some.inj h]; simp only [List.length_cons]; omega
    · exact absurd h (by simp)
  rw [if_neg h8] at h
  by_cases h10 : x.1 ≤ 10
  · rw [if_pos h10] at h
    split at h
    · rw [← Option.some.inj h]; simp only [List.length_cons]; omega
    · exact absurd h (by simp)
  rw [if_neg h10] at h
  by_cases h11 : x.1 = 11
  · rw [if_pos h11] at h
    split at h
    · rw [← Option.some.inj h]; simp only [List.length_cons]; omega
    · exact absurd h (by simp)
  · rw [if_neg h11] at h; exact absurd h (by simp)
/-- the cases of a step -/
theorem ty_cases (h : tyI x τ = some σ) (V : VT s τ) (hf : ∀ a, a < 8 → sml (fa a)) : (x.1 = 0 ∧ x.2 < 100000 ∧ evI fa x s = (x.2 : Int) :: s ∧ VT (evI fa x s) σ) ∨ (x.1 = 1 ∧ x.2 < 8 ∧ evI fa x s = fa x.2 :: s ∧ VT (evI fa x s) σ) ∨ (x.1 = 11 ∧ ∃ v s2, s = v :: s2 ∧ (v = 0 ∨ v = 1) ∧ evI fa x s = (if v = 0 then 1 else 0) :: s2 ∧ VT (evI fa x s) σ) ∨ (2 ≤ x.1 ∧ x.1 ≤ 10 ∧ ∃ r l s2, s = r :: l :: s2 ∧ sml l ∧ sml r ∧ (9 ≤ x.1 → (l = 0 ∨ l = 1) ∧ (r = 0 ∨ r = 1)) ∧ evI fa x s = opI x.1 l r :: s2 ∧ VT (evI fa x s) σ) := by
  unfold tyI at h
  by_cases h0 : x.1 = 0
  · rw [if_pos h0] at h
    have e : evI fa x s = (x.2 : Int) :: s := by unfold evI; rw [if_pos h0]
    by_cases hm : x.2 < 100000
    · rw [if_pos hm] at h
      refine Or.inl ⟨h0, hm, e, ?_⟩
      rw [e, ← Option.some.inj h]
      exact ⟨(⟨by omega, by omega⟩ : sml (x.2 : Int)), V⟩
    · rw [if_neg hm] at h; exact absurd h (by simp)
  rw [if_neg h0] at h
  by_cases h1 : x.1 = 1
  · rw [if_pos h1] at h
    have e : evI fa x s = fa x.2 :: s := by unfold evI; rw [if_neg h0, if_pos h1]
    by_cases hm : x.2 < 8
    · rw [if_pos hm] at h
      refine Or.inr (Or.inl ⟨h1, hm, e, ?_⟩)
      rw [e, ← Option.some.inj h]
      exact ⟨hf _ hm, V⟩
    · rw [if_neg hm] at h; exact absurd h (by simp)
  rw [if_neg h1] at h
  have e2 : ∀ r l s2, s = r :: l :: s2 → x.1 ≠ 11 → evI fa x s = opI x.1 l r :: s2 := fun r l s2 es hx => by
    unfold evI
    rw [if_neg h0, if_neg h1, if_neg hx, es]
  by_cases h5 : x.1 ≤ 5
  · rw [if_pos h5] at h
    split at h
    · rename_i ρ
      obtain ⟨r, s1, es, V1⟩ := V.inv
      subst es
      obtain ⟨l, s2, es, V2⟩ := V1.inv
      subst es
      have e := e2 r l s2 rfl (by omega)
      have sr := V.smv
      have sl := V1.smv
      refine Or.inr (Or.inr (Or.inr ⟨by omega, by omega, r, l, s2, rfl, sl, sr, fun z => by omega, e, ?_⟩))
      rw [e, ← Option.some.inj h]
      exact ⟨op_num (by omega) h5 sl sr, V2⟩
    · exact absurd h (by simp)
  rw [if_neg h5] at h
  by_cases h8 : x.1 ≤ 8
  · rw [if_pos h8] at h
    split at h
    · rename_i ρ
      obtain ⟨r, s1, es, V1⟩ := V.inv
      subst es
      obtain ⟨l, s2, es, V2⟩ := V1.inv
      subst es
      have e := e2 r l s2 rfl (by omega)
      have sr := V.smv
      have sl := V1.smv
      refine Or.inr (Or.inr (Or.inr ⟨by omega, by omega, r, l, s2, rfl, sl, sr, fun z => by omega, e, ?_⟩))
      rw [e, ← Option.some.inj h]
      exact ⟨op_bit (by omega) (by omega), V2⟩
    · exact absurd h (by simp)
  rw [if_neg h8] at h
  by_cases h10 : x.1 ≤ 10
  · rw [if_pos h10] at h
    split at h
    · rename_i ρ
      obtain ⟨r, s1, es, V1⟩ := V.inv
      subst es
      obtain ⟨l, s2, es, V2⟩ := V1.inv
      subst es
      have e := e2 r l s2 rfl (by omega)
      have sr := V.smv
      have sl := V1.smv
      refine Or.inr (Or.inr (Or.inr ⟨by omega, by omega, r, l, s2, rfl, sl, sr, fun _ => ⟨V1.bit, V.bit⟩, e, ?_⟩))
      rw [e, ← Option.some.inj h]
      exact ⟨op_bit (by omega) (by omega), V2⟩
    · exact absurd h (by simp)
  rw [if_neg h10] at h
  by_cases h11 : x.1 = 11
  · rw [if_pos h11] at h
    split at h
    · rename_i ρ
      obtain ⟨v, s2, es, V2⟩ := V.inv
      subst es
      have e : evI fa x (v :: s2) = (if v = 0 then 1 else 0) :: s2 := by
        unfold evI
        rw [if_neg h0, if_neg h1, if_pos h11]
      refine Or.inr (Or.inr (Or.inl ⟨h11, v, s2, rfl, V.bit, e, ?_⟩))
      rw [e, ← Option.some.inj h]
      exact ⟨bit01, V2⟩
    · exact absurd h (by simp)
  · rw [if_neg h11] at h; exact absurd h (by simp)
end EV
