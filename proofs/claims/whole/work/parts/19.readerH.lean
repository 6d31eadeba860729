/-! ===== the recursive methods: closed, to depth 40 ===== -/
noncomputable def rcR (n : Nat) : Nat → Int32 → am_I → am_N → (Int32 → am_I → am_N → Prop) → Prop :=
  Nat.rec (motive := fun _ => Nat → Int32 → am_I → am_N → (Int32 → am_I → am_N → Prop) → Prop) (fun _ _ _ _ _ => False) (fun _ rc k a1 M N post => match k with
    | 0 => w_X7_readAnyO rc a1 M N post
    | 1 => w_X7_readOneO rc a1 M N post
    | 2 => w_X7_readSumO rc a1 M N post
    | _ => w_X7_readAtomO rc a1 M N post) n
theorem rcR_0 (n : Nat) (a1 : Int32) (M : am_I) (N : am_N) (post : Int32 → am_I → am_N → Prop) : rcR (n + 1) 0 a1 M N post = w_X7_readAnyO (rcR n) a1 M N post := rfl
theorem rcR_1 (n : Nat) (a1 : Int32) (M : am_I) (N : am_N) (post : Int32 → am_I → am_N → Prop) : rcR (n + 1) 1 a1 M N post = w_X7_readOneO (rcR n) a1 M N post := rfl
theorem rcR_2 (n : Nat) (a1 : Int32) (M : am_I) (N : am_N) (post : Int32 → am_I → am_N → Prop) : rcR (n + 1) 2 a1 M N post = w_X7_readSumO (rcR n) a1 M N post := rfl
theorem rcR_3 (n : Nat) (a1 : Int32) (M : am_I) (N : am_N) (post : Int32 → am_I → am_N → Prop) : rcR (n + 1) 3 a1 M N post = w_X7_readAtomO (rcR n) a1 M N post := rfl
theorem k_rcR {dm : List am_C} (h0 : am_d0 dm) : ∀ n : Nat, (∀ (a1 : Int32) (M : am_I) (N : am_N) (post : Int32 → am_I → am_N → Prop), rcR n 0 a1 M N post → jg (2 + n) mX7_readAny dm 0 [(0, .inr (.inr (0, 0, 7))), (1, .inl a1)] [] M N (am_pi post)) ∧ (∀ (a1 : Int32) (M : am_I) (N : am_N) (post : Int32 → am_I → am_N → Prop), rcR n 1 a1 M N post → jg (2 + n) mX7_readOne dm 0 [(0, .inr (.inr (0, 0, 7))), (1, .inl a1)] [] M N (am_pi post)) ∧ (∀ (a1 : Int32) (M : am_I) (N : am_N) (post : Int32 → am_I → am_N → Prop), rcR n 2 a1 M N post → jg (2 + n) mX7_readSum dm 0 [(0, .inr (.inr (0, 0, 7))), (1, .inl a1)] [] M N (am_pi post)) ∧ (∀ (a1 : Int32) (M : am_I) (N : am_N) (post : Int32 → am_I → am_N → Prop), rcR n 3 a1 M N post → jg (2 + n) mX7_readAtom dm 0 [(0, .inr (.inr (0, 0, 7))), (1, .inl a1)] [] M N (am_pi post)) := by
  intro n
  induction n with
  | zero => exact ⟨fun _ _ _ _ h => h.elim, fun _ _ _ _ h => h.elim, fun _ _ _ _ h => h.elim, fun _ _ _ _ h => h.elim⟩
  | succ n zih =>
    obtain ⟨q0, q1, q2, q3⟩ := zih
    refine ⟨?_, ?_, ?_, ?_⟩
    · intro a1 M N post h
      have h9 := k_X7_readAnyO (d := n + 1 + 0) (e := 2 + n) h0 (by omega) q0 q1 q2 q3 (rc := rcR n) h
      rw [show n + 1 + 0 + 2 = 2 + (n + 1) from by omega] at h9
      exact h9
    · intro a1 M N post h
      have h9 := k_X7_readOneO (d := n + 1 + 0) (e := 2 + n) h0 (by omega) q0 q1 q2 q3 (rc := rcR n) h
      rw [show n + 1 + 0 + 2 = 2 + (n + 1) from by omega] at h9
      exact h9
    · intro a1 M N post h
      have h9 := k_X7_readSumO (d := n + 1 + 0) (e := 2 + n) h0 (by omega) q0 q1 q2 q3 (rc := rcR n) h
      rw [show n + 1 + 0 + 2 = 2 + (n + 1) from by omega] at h9
      exact h9
    · intro a1 M N post h
      have h9 := k_X7_readAtomO (d := n + 1 + 0) (e := 2 + n) h0 (by omega) q0 q1 q2 q3 (rc := rcR n) h
      rw [show n + 1 + 0 + 2 = 2 + (n + 1) from by omega] at h9
      exact h9
noncomputable def w_X7_readAny (a1 : Int32) (M : am_I) (N : am_N) (post : Int32 → am_I → am_N → Prop) : Prop := rcR 40 0 a1 M N post
theorem k_X7_readAny {d : Nat} {dm : List am_C} (h0 : am_d0 dm) {a1 : Int32} {M : am_I} {N : am_N} {post : Int32 → am_I → am_N → Prop} (h : w_X7_readAny a1 M N post) : jg (d + 42) mX7_readAny dm 0 [(0, .inr (.inr (0, 0, 7))), (1, .inl a1)] [] M N (am_pi post) := j_mono (show 2 + 40 ≤ d + 42 by omega) ((k_rcR h0 40).1 _ _ _ _ h)
noncomputable def w_X7_readOne (a1 : Int32) (M : am_I) (N : am_N) (post : Int32 → am_I → am_N → Prop) : Prop := rcR 40 1 a1 M N post
theorem k_X7_readOne {d : Nat} {dm : List am_C} (h0 : am_d0 dm) {a1 : Int32} {M : am_I} {N : am_N} {post : Int32 → am_I → am_N → Prop} (h : w_X7_readOne a1 M N post) : jg (d + 42) mX7_readOne dm 0 [(0, .inr (.inr (0, 0, 7))), (1, .inl a1)] [] M N (am_pi post) := j_mono (show 2 + 40 ≤ d + 42 by omega) ((k_rcR h0 40).2.1 _ _ _ _ h)
noncomputable def w_X7_readSum (a1 : Int32) (M : am_I) (N : am_N) (post : Int32 → am_I → am_N → Prop) : Prop := rcR 40 2 a1 M N post
theorem k_X7_readSum {d : Nat} {dm : List am_C} (h0 : am_d0 dm) {a1 : Int32} {M : am_I} {N : am_N} {post : Int32 → am_I → am_N → Prop} (h : w_X7_readSum a1 M N post) : jg (d + 42) mX7_readSum dm 0 [(0, .inr (.inr (0, 0, 7))), (1, .inl a1)] [] M N (am_pi post) := j_mono (show 2 + 40 ≤ d + 42 by omega) ((k_rcR h0 40).2.2.1 _ _ _ _ h)
noncomputable def w_X7_readAtom (a1 : Int32) (M : am_I) (N : am_N) (post : Int32 → am_I → am_N → Prop) : Prop := rcR 40 3 a1 M N post
theorem k_X7_readAtom {d : Nat} {dm : List am_C} (h0 : am_d0 dm) {a1 : Int32} {M : am_I} {N : am_N} {post : Int32 → am_I → am_N → Prop} (h : w_X7_readAtom a1 M N post) : jg (d + 42) mX7_readAtom dm 0 [(0, .inr (.inr (0, 0, 7))), (1, .inl a1)] [] M N (am_pi post) := j_mono (show 2 + 40 ≤ d + 42 by omega) ((k_rcR h0 40).2.2.2 _ _ _ _ h)
