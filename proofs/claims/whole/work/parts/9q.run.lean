/-! ===== evaluation of a list ===== -/
section RN2
variable {fa : Nat → Int} {x : Nat × Nat} {s s2 : List Int} {τ σ : List Bool} {M M1 M2 : am_I} {N N1 N2 : am_N} {v l r : Int} {b : Bool} {post : Int32 → am_I → am_N → Prop} {postL : Int64 → am_I → am_N → Prop} {i j C e : Nat}
theorem ul_s {c : am_C} {k : Nat} {y : Int64} : am_ul N c k y c k = y := by rw [am_ul_eq, if_pos rfl, if_pos rfl]
theorem ul_n {c : am_C} {k i : Nat} {y : Int64} (h : i ≠ k) : am_ul N c k y c i = N c i := by rw [am_ul_eq, if_pos rfl, if_neg h]
theorem neg_lt4 {e : Nat} (h : 4 < e) (h2 : e < 2 ^ 31) : -nI e < 0 ∧ -nI e < (-4) := by
  have h1 : -nI e < -nI 0 ↔ 0 < e := sb_nlt (by omega) (by omega)
  have h3 : -nI e < -nI 4 ↔ 4 < e := sb_nlt (by omega) (by omega)
  exact ⟨h1.mpr (by omega), h3.mpr h⟩
theorem ec_rel {w a : Nat} (h2 : 2 ≤ w) (h10 : w ≤ 10) : ((w = 2 ∧ ecN w a = 43) ∨ (w = 3 ∧ ecN w a = 45) ∨ (w = 4 ∧ ecN w a = 42) ∨ (w = 5 ∧ ecN w a = 47) ∨ (w = 6 ∧ ecN w a = 60) ∨ (w = 7 ∧ ecN w a = 62) ∨ (w = 8 ∧ ecN w a = 61) ∨ (w = 9 ∧ ecN w a = 6) ∨ (w = 10 ∧ ecN w a = 7)) := by
  have : w = 2 ∨ w = 3 ∨ w = 4 ∨ w = 5 ∨ w = 6 ∨ w = 7 ∨ w = 8 ∨ w = 9 ∨ w = 10 := by omega
  rcases this with r | r | r | r | r | r | r | r | r <;> subst r
  · exact Or.inl ⟨rfl, rfl⟩
  · exact Or.inr (Or.inl ⟨rfl, rfl⟩)
  · exact Or.inr (Or.inr (Or.inl ⟨rfl, rfl⟩))
  · exact Or.inr (Or.inr (Or.inr (Or.inl ⟨rfl, rfl⟩)))
  · exact Or.inr (Or.inr (Or.inr (Or.inr (Or.inl ⟨rfl, rfl⟩))))
  · exact Or.inr (Or.inr (Or.inr (Or.inr (Or.inr (Or.inl ⟨rfl, rfl⟩)))))
  · exact Or.inr (Or.inr (Or.inr (Or.inr (Or.inr (Or.inr (Or.inl ⟨rfl, rfl⟩))))))
  · exact Or.inr (Or.inr (Or.inr (Or.inr (Or.inr (Or.inr (Or.inr (Or.inl ⟨rfl, rfl⟩)))))))
  · exact Or.inr (Or.inr (Or.inr (Or.inr (Or.inr (Or.inr (Or.inr (Or.inr ⟨rfl, rfl⟩)))))))
theorem c_app56 {w : Nat} {pm : am_I → am_N → Prop} (S : StC2 fa (r :: l :: s2) M) (hl : s2.length < 60) (sl : sml l) (sr : sml r) (hw : (w = 2 ∧ e = 43) ∨ (w = 3 ∧ e = 45) ∨ (w = 4 ∧ e = 42) ∨ (w = 5 ∧ e = 47) ∨ (w = 6 ∧ e = 60) ∨ (w = 7 ∧ e = 62) ∨ (w = 8 ∧ e = 61) ∨ (w = 9 ∧ e = 6) ∨ (w = 10 ∧ e = 7)) (h : ∀ M1, FrE M M1 → StC2 fa (opI w l r :: s2) M1 → pm M1 N) : w_X3_apply_p56 pm (nI e) M N := by
  unfold w_X3_apply_p56
  refine c_pop S (by rw [List.length_cons]; omega) (fun M1 F1 S1 => c_pop S1 (by omega) (fun M2 F2 S2 => ?_))
  exact c_join sl sr hw (c_push S2 (by omega) (fun M3 F3 S3 => h M3 ((F1.tr F2).tr F3) S3))
theorem c_apply (hs : s.length ≤ 60) (S : StC2 fa s M) (V : VT s τ) (ht : tyI x τ = some σ) (hf : ∀ a, a < 8 → sml (fa a)) (h0 : x.1 ≠ 0) {pm : am_I → am_N → Prop} (h : ∀ M1, FrE M M1 → StC2 fa (evI fa x s) M1 → pm M1 N) : w_X3_apply (nI (ecN x.1 x.2)) M N pm ∧ 4 < ecN x.1 x.2 ∧ ecN x.1 x.2 < 100 := by
  obtain ⟨w, a⟩ := x
  rcases ty_cases ht V hf with ⟨e0, _⟩ | ⟨e1, ha, ee, _⟩ | ⟨e11, v, s2, es, hv, ee, _⟩ | ⟨h2, h10, r, l, s2, es, sl, sr, _, ee, _⟩
  · exact absurd e0 h0
  · have e1' : w = 1 := e1
    subst e1'
    have ec : ecN 1 a = 9 + a := rfl
    rw [ec]
    rw [ee] at h
    have ha' : a < 8 := ha
    refine ⟨?_, by omega, by omega⟩
    unfold w_X3_apply
    have e9 : nI (9 + a) - (9 : Int32) = nI a := by
      have : nI (9 + a) - nI 9 = nI (9 + a - 9) := pk_sub (by omega)
      rw [show 9 + a - 9 = a by omega] at this
      exact this
    have n8 : ¬ nI (9 + a) = (8 : Int32) := fun z => by
      have := (nI_eq (b := 8) (show 9 + a < 2 ^ 31 by omega) (by omega)).mp z
      omega
    have g8 : ¬ (8 : Int32) ≤ nI a := nI_ge (b := 8) ha' (by omega)
    rw [e9, nI_clamp (show a < 2 ^ 31 by omega), S.f a ha']
    exact ⟨fun _ => ⟨fun z => absurd z (nI_pos (by omega)), fun _ => ⟨fun z => absurd z g8, fun _ => ⟨fun z => absurd z g8, fun _ => ⟨vp_in_nI ha' (by omega), c_push S (by omega) h⟩⟩⟩⟩, fun z => absurd z n8⟩
  · have e1' : w = 11 := e11
    subst e1'
    subst es
    have ec : ecN 11 a = 8 := rfl
    rw [ec]
    rw [ee] at h
    refine ⟨?_, by omega, by omega⟩
    have hl2 : s2.length < 60 := by rw [List.length_cons] at hs; omega
    unfold w_X3_apply w_X3_apply_p24
    refine ⟨fun z => absurd rfl z, fun _ => c_pop S (by omega) (fun M1 F1 S1 => ⟨fun z => ?_, fun z => ?_⟩)⟩
    · have v1 : v = 1 := by
        rcases hv with e | e
        · rw [e] at z; exact absurd rfl z
        · exact e
      rw [v1, if_neg (by decide)] at h
      exact c_push (v := 0) S1 (by omega) (fun M2 F2 S2 => h M2 (F1.tr F2) S2)
    · have v0 : v = 0 := by
        rcases hv with e | e
        · exact e
        · rw [e] at z; exact absurd z (by decide)
      rw [v0, if_pos rfl] at h
      exact c_push (v := 1) S1 (by omega) (fun M2 F2 S2 => h M2 (F1.tr F2) S2)
  · subst es
    rw [ee] at h
    have hl2 : s2.length < 60 := by rw [List.length_cons, List.length_cons] at hs; omega
    have hw := ec_rel (a := a) h2 h10
    have hw' : ((w = 2 ∧ ecN w a = 43) ∨ (w = 3 ∧ ecN w a = 45) ∨ (w = 4 ∧ ecN w a = 42) ∨ (w = 5 ∧ ecN w a = 47) ∨ (w = 6 ∧ ecN w a = 60) ∨ (w = 7 ∧ ecN w a = 62) ∨ (w = 8 ∧ ecN w a = 61) ∨ (w = 9 ∧ ecN w a = 6) ∨ (w = 10 ∧ ecN w a = 7)) := hw
    have p := c_app56 (pm := pm) (N := N) S hl2 sl sr hw' h
    generalize hE : ecN w a = E at hw' p
    refine ⟨?_, by omega, by omega⟩
    unfold w_X3_apply
    have n8 : ¬ nI E = (8 : Int32) := fun z => by
      have := (nI_eq (b := 8) (show E < 2 ^ 31 by omega) (by omega)).mp z
      omega
    refine ⟨fun _ => ⟨fun _ => p, fun z => ⟨fun _ => p, fun z2 => ?_⟩⟩, fun z => absurd z n8⟩
    have q : E < 9 ∨ 17 ≤ E := by omega
    rcases q with q | q
    · exact absurd (show nI E - nI 9 < 0 from pk_sneg (by omega) q) z
    · have e9 : nI E - (9 : Int32) = nI (E - 9) := pk_sub (b := 9) (by omega)
      rw [e9] at z2
      exact absurd (nI_le (a := 8) (by omega) (by omega)) z2
theorem c_step (hs : s.length ≤ 60) (S : StC2 fa s M) (V : VT s τ) (ht : tyI x τ = some σ) (hf : ∀ a, a < 8 → sml (fa a)) (e2 : M (0, 0, 12) 2 = nI C) (hi : i < C) (hC : C ≤ 548) (hm : M (0, 0, 13) i = enc x) (h : ∀ M1, FrE M M1 → StC2 fa (evI fa x s) M1 → w_X3_decide_p12 post j (nI (i + 1)) M1 N) : w_X3_decide_p12 post (j + 1) (nI i) M N := by
  rw [w_X3_decide_p12_s]
  unfold w_X3_decide_p12_b
  rw [e2, nI_clamp (show i < 2 ^ 31 by omega), nI_1]
  refine ⟨fun z => absurd z (nI_ge hi (by omega)), fun _ => ⟨vp_in_nI (by omega) (by omega), fun zv hz => ?_⟩⟩
  rw [hm] at hz
  subst hz
  by_cases h0 : x.1 = 0
  · have ee : enc x = iI (x.2 : Int) := by unfold enc; rw [if_pos h0, iI_n]
    rcases ty_cases ht V hf with ⟨_, hm2, ev0, _⟩ | ⟨e1, _⟩ | ⟨e11, _⟩ | ⟨h2, _⟩
    · rw [ev0] at h
      have np : ¬ enc x < 0 := by rw [ee, iI_n]; exact nI_pos (by omega)
      refine ⟨fun z => absurd z np, fun _ => ?_⟩
      rw [ee]
      exact c_push S (by omega) h
    · omega
    · omega
    · omega
  · have ee : enc x = -nI (ecN x.1 x.2) := by unfold enc; rw [if_neg h0]
    obtain ⟨p, b1, b2⟩ := c_apply (N := N) hs S V ht hf h0 h
    obtain ⟨n1, n2⟩ := neg_lt4 b1 (by omega)
    rw [ee, Int32.neg_neg]
    exact ⟨fun _ => ⟨fun _ => p, fun z => absurd n2 z⟩, fun z => absurd n1 z⟩
theorem gd_s {α : Type} {a d : α} {A : List α} {k : Nat} : (a :: A).getD (k + 1) d = A.getD k d := rfl
theorem c_run (hf : ∀ a, a < 8 → sml (fa a)) (hC : C ≤ 548) : ∀ (E : List (Nat × Nat)) (i j : Nat) (s : List Int) (τ σ : List Bool) (M : am_I), tyR 60 E τ = some σ → τ.length ≤ 60 → VT s τ → StC2 fa s M → M (0, 0, 12) 2 = nI C → i + E.length ≤ C → (∀ k, k < E.length → M (0, 0, 13) (i + k) = enc (E.getD k (0, 0))) → (∀ M1, FrE M M1 → StC2 fa (ev fa E s) M1 → VT (ev fa E s) σ → w_X3_decide_p12 post j (nI (i + E.length)) M1 N) → w_X3_decide_p12 post (j + E.length) (nI i) M N
  | [], i, j, s, τ, σ, M, ht, hτ, V, S, e2, hi, hm, h => by
    have e : τ = σ := Option.some.inj ht
    subst e
    exact h M FrE.rf S V
  | x :: E, i, j, s, τ, σ, M, ht, hτ, V, S, e2, hi, hm, h => by
    rw [tyR_cons] at ht
    rw [List.length_cons] at hi
    cases hx : tyI x τ with
    | none => rw [hx] at ht; exact absurd ht (by simp)
    | some ρ =>
      rw [hx] at ht
      simp only at ht
      by_cases hρ : ρ.length ≤ 60
      · rw [if_pos hρ] at ht
        have V1 : VT (evI fa x s) ρ := by
          rcases ty_cases hx V hf with ⟨_, _, _, v⟩ | ⟨_, _, _, v⟩ | ⟨_, _, _, _, _, _, v⟩ | ⟨_, _, _, _, _, _, _, _, _, _, v⟩ <;> exact v
        refine c_step (j := j + E.length) (by rw [V.len]; exact hτ) S V hx hf e2 (by omega) hC (hm 0 (by rw [List.length_cons]; omega)) (fun M1 F1 S1 => ?_)
        refine c_run hf hC E (i + 1) j (evI fa x s) ρ σ M1 ht hρ V1 S1 (by rw [F1.2 2 (by decide)]; exact e2) (by omega) (fun k hk => ?_) (fun M2 F2 S2 V2 => ?_)
        · rw [F1.1 _ (by simp) (by simp)]
          have := hm (k + 1) (by rw [List.length_cons]; omega)
          rw [gd_s] at this
          rw [show i + 1 + k = i + (k + 1) by omega]
          exact this
        · rw [show i + 1 + E.length = i + (x :: E).length by rw [List.length_cons]; omega]
          exact h M2 (F1.tr F2) S2 V2
      · rw [if_neg hρ] at ht; exact absurd ht (by simp)
/-! the reference -/
theorem r_step {n : Nat} (hs : s.length ≤ 60) (S : StkR s N) (hW : ∀ a, a < 8 → N (3, 0, 42) a = iL (fa a)) (V : VT s τ) (ht : tyI x τ = some σ) (hf : ∀ a, a < 8 → sml (fa a)) (hi : i < e) (he : e ≤ 6300) (m1 : M (3, 0, 39) i = nI x.1) (m2 : M (3, 0, 40) i = nI x.2) (h : ∀ N1, FrN N N1 → StkR (evI fa x s) N1 → w_X12_runs_p5 postL j (nI e) (nI (evI fa x s).length) (nI (i + 1)) M N1) : w_X12_runs_p5 postL (j + 1) (nI e) (nI s.length) (nI i) M N := by
  rw [w_X12_runs_p5_s]
  unfold w_X12_runs_p5_b
  rw [nI_clamp (show i < 2 ^ 31 by omega), nI_1, m2]
  have vi : vp_in (nI i) 6300 := vp_in_nI (by omega) (by omega)
  refine ⟨fun z => absurd z (nI_ge hi (by omega)), fun _ => ⟨vi, fun zv hz => ?_⟩⟩
  rw [m1] at hz
  subst hz
  rcases ty_cases ht V hf with ⟨e0, hm, ee, _⟩ | ⟨e1, ha, ee, _⟩ | ⟨e11, v, s2, es, hv, ee, _⟩ | ⟨h2, h10, r, l, s2, es, sl, sr, hb, ee, _⟩
  · rw [e0]
    rw [ee] at h
    refine ⟨fun z => absurd z (by decide), fun _ => ⟨fun z => absurd rfl z, fun _ => ⟨vi, vp_in_nI (by omega) (by omega), ?_⟩⟩⟩
    rw [nI_1, nI_clamp (show s.length < 2 ^ 31 by omega), nI_l (show x.2 < 2 ^ 31 by omega)]
    refine h _ (fun c q => am_ul_o _ _ _ q) ⟨?_, S.cg fun k hk => ul_n (by omega)⟩
    rw [ul_s, iL_n]
  · rw [e1]
    rw [ee] at h
    refine ⟨fun z => absurd z (by decide), fun _ => ⟨fun _ => ⟨vi, vp_in_nI ha (by omega), vp_in_nI (by omega) (by omega), ?_⟩, fun z => absurd z (by decide)⟩⟩
    rw [nI_1, nI_clamp (show s.length < 2 ^ 31 by omega), nI_clamp (show x.2 < 2 ^ 31 by omega), hW _ ha]
    exact h _ (fun c q => am_ul_o _ _ _ q) ⟨ul_s, S.cg fun k hk => ul_n (by omega)⟩
  · rw [e11]
    subst es
    rw [ee] at h
    have hl2 : s2.length < 60 := by rw [List.length_cons] at hs; omega
    have el : (v :: s2).length = s2.length + 1 := rfl
    rw [el, nI_pred, nI_clamp (show s2.length < 2 ^ 31 by omega), S.1]
    refine ⟨fun _ => ⟨fun z => absurd rfl z, fun _ => ⟨vp_in_nI (by omega) (by omega), vp_in_nI (by omega) (by omega), ?_⟩⟩, fun z => absurd (by decide) z⟩
    have e1 : (1 : Int64) - iL v = iL (if v = 0 then 1 else 0) := by
      rcases hv with r | r <;> subst r <;> decide
    rw [e1]
    exact h _ (fun c q => am_ul_o _ _ _ q) ⟨ul_s, S.2.cg fun k hk => ul_n (by omega)⟩
  · subst es
    rw [ee] at h
    have hl2 : s2.length < 60 := by rw [List.length_cons, List.length_cons] at hs; omega
    have el : (r :: l :: s2).length = s2.length + 1 + 1 := rfl
    rw [el, pk_m1, nI_pred, nI_clamp (show s2.length < 2 ^ 31 by omega), nI_clamp (show s2.length + 1 < 2 ^ 31 by omega)]
    have n11 : ¬ nI x.1 = (11 : Int32) := fun z => by
      have := (nI_eq (b := 11) (show x.1 < 2 ^ 31 by omega) (by omega)).mp z
      omega
    refine ⟨fun _ => ⟨fun _ => ⟨vp_in_nI (by omega) (by omega), vp_in_nI (by omega) (by omega), ?_⟩, fun z => absurd z n11⟩, fun z => absurd (nI_lt (a := 1) (by omega) (by omega)) z⟩
    rw [S.2.1, show N (3, 0, 41) (s2.length + 1) = iL r from S.1]
    refine r_both sl sr h2 h10 hb ⟨vp_in_nI (by omega) (by omega), ?_⟩
    exact h _ (fun c q => am_ul_o _ _ _ q) ⟨ul_s, S.2.2.cg fun k hk => ul_n (by omega)⟩
theorem r_run (hf : ∀ a, a < 8 → sml (fa a)) (he : e ≤ 6300) : ∀ (E : List (Nat × Nat)) (i j : Nat) (s : List Int) (τ σ : List Bool) (N : am_N), tyR 60 E τ = some σ → τ.length ≤ 60 → VT s τ → StkR s N → (∀ a, a < 8 → N (3, 0, 42) a = iL (fa a)) → i + E.length ≤ e → (∀ k, k < E.length → M (3, 0, 39) (i + k) = nI (E.getD k (0, 0)).1 ∧ M (3, 0, 40) (i + k) = nI (E.getD k (0, 0)).2) → (∀ N1, FrN N N1 → StkR (ev fa E s) N1 → VT (ev fa E s) σ → w_X12_runs_p5 postL j (nI e) (nI (ev fa E s).length) (nI (i + E.length)) M N1) → w_X12_runs_p5 postL (j + E.length) (nI e) (nI s.length) (nI i) M N
  | [], i, j, s, τ, σ, N, ht, hτ, V, S, hW, hi, hm, h => by
    have e : τ = σ := Option.some.inj ht
    subst e
    exact h N (fun _ _ => rfl) S V
  | x :: E, i, j, s, τ, σ, N, ht, hτ, V, S, hW, hi, hm, h => by
    rw [tyR_cons] at ht
    rw [List.length_cons] at hi
    cases hx : tyI x τ with
    | none => rw [hx] at ht; exact absurd ht (by simp)
    | some ρ =>
      rw [hx] at ht
      simp only at ht
      by_cases hρ : ρ.length ≤ 60
      · rw [if_pos hρ] at ht
        have V1 : VT (evI fa x s) ρ := by
          rcases ty_cases hx V hf with ⟨_, _, _, v⟩ | ⟨_, _, _, v⟩ | ⟨_, _, _, _, _, _, v⟩ | ⟨_, _, _, _, _, _, _, _, _, _, v⟩ <;> exact v
        have h00 := hm 0 (by rw [List.length_cons]; omega)
        refine r_step (n := 0) (j := j + E.length) (by rw [V.len]; exact hτ) S hW V hx hf (by omega) he h00.1 h00.2 (fun N1 F1 S1 => ?_)
        refine r_run hf he E (i + 1) j (evI fa x s) ρ σ N1 ht hρ V1 S1 (fun a ha => by rw [F1 _ (by simp)]; exact hW a ha) (by omega) (fun k hk => ?_) (fun N2 F2 S2 V2 => ?_)
        · have := hm (k + 1) (by rw [List.length_cons]; omega)
          rw [gd_s] at this
          rw [show i + 1 + k = i + (k + 1) by omega]
          exact this
        · rw [show i + 1 + E.length = i + (x :: E).length by rw [List.length_cons]; omega]
          exact h N2 (F1.tr F2) S2 V2
      · rw [if_neg hρ] at ht; exact absurd ht (by simp)
end RN2
