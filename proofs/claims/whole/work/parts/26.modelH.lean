/-! ===== the recursive methods: closed, to depth 40 ===== -/
noncomputable def rcM (n : Nat) : Nat → am_I → am_N → (Int32 → am_I → am_N → Prop) → Prop :=
  Nat.rec (motive := fun _ => Nat → am_I → am_N → (Int32 → am_I → am_N → Prop) → Prop) (fun _ _ _ _ => False) (fun _ rc k M N post => match k with
    | 0 => w_X12_anyO rc M N post
    | 1 => w_X12_allO rc M N post
    | 2 => w_X12_singleO rc M N post
    | 3 => w_X12_exO rc M N post
    | 4 => w_X12_productO rc M N post
    | _ => w_X12_atomO rc M N post) n
theorem rcM_0 (n : Nat) (M : am_I) (N : am_N) (post : Int32 → am_I → am_N → Prop) : rcM (n + 1) 0 M N post = w_X12_anyO (rcM n) M N post := rfl
theorem rcM_1 (n : Nat) (M : am_I) (N : am_N) (post : Int32 → am_I → am_N → Prop) : rcM (n + 1) 1 M N post = w_X12_allO (rcM n) M N post := rfl
theorem rcM_2 (n : Nat) (M : am_I) (N : am_N) (post : Int32 → am_I → am_N → Prop) : rcM (n + 1) 2 M N post = w_X12_singleO (rcM n) M N post := rfl
theorem rcM_3 (n : Nat) (M : am_I) (N : am_N) (post : Int32 → am_I → am_N → Prop) : rcM (n + 1) 3 M N post = w_X12_exO (rcM n) M N post := rfl
theorem rcM_4 (n : Nat) (M : am_I) (N : am_N) (post : Int32 → am_I → am_N → Prop) : rcM (n + 1) 4 M N post = w_X12_productO (rcM n) M N post := rfl
theorem rcM_5 (n : Nat) (M : am_I) (N : am_N) (post : Int32 → am_I → am_N → Prop) : rcM (n + 1) 5 M N post = w_X12_atomO (rcM n) M N post := rfl
theorem k_rcM {dm : List am_C} (h3 : am_d3 dm) : ∀ n : Nat, (∀ (M : am_I) (N : am_N) (post : Int32 → am_I → am_N → Prop), rcM n 0 M N post → jg (4 + n) mX12_any dm 0 [(0, .inr (.inr (3, 0, 0)))] [] M N (am_pi post)) ∧ (∀ (M : am_I) (N : am_N) (post : Int32 → am_I → am_N → Prop), rcM n 1 M N post → jg (4 + n) mX12_all dm 0 [(0, .inr (.inr (3, 0, 0)))] [] M N (am_pi post)) ∧ (∀ (M : am_I) (N : am_N) (post : Int32 → am_I → am_N → Prop), rcM n 2 M N post → jg (4 + n) mX12_single dm 0 [(0, .inr (.inr (3, 0, 0)))] [] M N (am_pi post)) ∧ (∀ (M : am_I) (N : am_N) (post : Int32 → am_I → am_N → Prop), rcM n 3 M N post → jg (4 + n) mX12_ex dm 0 [(0, .inr (.inr (3, 0, 0)))] [] M N (am_pi post)) ∧ (∀ (M : am_I) (N : am_N) (post : Int32 → am_I → am_N → Prop), rcM n 4 M N post → jg (4 + n) mX12_product dm 0 [(0, .inr (.inr (3, 0, 0)))] [] M N (am_pi post)) ∧ (∀ (M : am_I) (N : am_N) (post : Int32 → am_I → am_N → Prop), rcM n 5 M N post → jg (4 + n) mX12_atom dm 0 [(0, .inr (.inr (3, 0, 0)))] [] M N (am_pi post)) := by
  intro n
  induction n with
  | zero => exact ⟨fun _ _ _ h => h.elim, fun _ _ _ h => h.elim, fun _ _ _ h => h.elim, fun _ _ _ h => h.elim, fun _ _ _ h => h.elim, fun _ _ _ h => h.elim⟩
  | succ n zih =>
    obtain ⟨q0, q1, q2, q3, q4, q5⟩ := zih
    refine ⟨?_, ?_, ?_, ?_, ?_, ?_⟩
    · intro M N post h
      have h9 := k_X12_anyO (d := n + 1 + 0) (e := 4 + n) h3 (by omega) q0 q1 q2 q3 q4 q5 (rc := rcM n) h
      rw [show n + 1 + 0 + 4 = 4 + (n + 1) from by omega] at h9
      exact h9
    · intro M N post h
      have h9 := k_X12_allO (d := n + 1 + 0) (e := 4 + n) h3 (by omega) q0 q1 q2 q3 q4 q5 (rc := rcM n) h
      rw [show n + 1 + 0 + 4 = 4 + (n + 1) from by omega] at h9
      exact h9
    · intro M N post h
      have h9 := k_X12_singleO (d := n + 1 + 1) (e := 4 + n) h3 (by omega) q0 q1 q2 q3 q4 q5 (rc := rcM n) h
      rw [show n + 1 + 1 + 3 = 4 + (n + 1) from by omega] at h9
      exact h9
    · intro M N post h
      have h9 := k_X12_exO (d := n + 1 + 1) (e := 4 + n) h3 (by omega) q0 q1 q2 q3 q4 q5 (rc := rcM n) h
      rw [show n + 1 + 1 + 3 = 4 + (n + 1) from by omega] at h9
      exact h9
    · intro M N post h
      have h9 := k_X12_productO (d := n + 1 + 1) (e := 4 + n) h3 (by omega) q0 q1 q2 q3 q4 q5 (rc := rcM n) h
      rw [show n + 1 + 1 + 3 = 4 + (n + 1) from by omega] at h9
      exact h9
    · intro M N post h
      have h9 := k_X12_atomO (d := n + 1 + 1) (e := 4 + n) h3 (by omega) q0 q1 q2 q3 q4 q5 (rc := rcM n) h
      rw [show n + 1 + 1 + 3 = 4 + (n + 1) from by omega] at h9
      exact h9
noncomputable def w_X12_any (M : am_I) (N : am_N) (post : Int32 → am_I → am_N → Prop) : Prop := rcM 40 0 M N post
theorem k_X12_any {d : Nat} {dm : List am_C} (h3 : am_d3 dm) {M : am_I} {N : am_N} {post : Int32 → am_I → am_N → Prop} (h : w_X12_any M N post) : jg (d + 44) mX12_any dm 0 [(0, .inr (.inr (3, 0, 0)))] [] M N (am_pi post) := j_mono (show 4 + 40 ≤ d + 44 by omega) ((k_rcM h3 40).1 _ _ _ h)
noncomputable def w_X12_all (M : am_I) (N : am_N) (post : Int32 → am_I → am_N → Prop) : Prop := rcM 40 1 M N post
theorem k_X12_all {d : Nat} {dm : List am_C} (h3 : am_d3 dm) {M : am_I} {N : am_N} {post : Int32 → am_I → am_N → Prop} (h : w_X12_all M N post) : jg (d + 44) mX12_all dm 0 [(0, .inr (.inr (3, 0, 0)))] [] M N (am_pi post) := j_mono (show 4 + 40 ≤ d + 44 by omega) ((k_rcM h3 40).2.1 _ _ _ h)
noncomputable def w_X12_single (M : am_I) (N : am_N) (post : Int32 → am_I → am_N → Prop) : Prop := rcM 40 2 M N post
theorem k_X12_single {d : Nat} {dm : List am_C} (h3 : am_d3 dm) {M : am_I} {N : am_N} {post : Int32 → am_I → am_N → Prop} (h : w_X12_single M N post) : jg (d + 44) mX12_single dm 0 [(0, .inr (.inr (3, 0, 0)))] [] M N (am_pi post) := j_mono (show 4 + 40 ≤ d + 44 by omega) ((k_rcM h3 40).2.2.1 _ _ _ h)
noncomputable def w_X12_ex (M : am_I) (N : am_N) (post : Int32 → am_I → am_N → Prop) : Prop := rcM 40 3 M N post
theorem k_X12_ex {d : Nat} {dm : List am_C} (h3 : am_d3 dm) {M : am_I} {N : am_N} {post : Int32 → am_I → am_N → Prop} (h : w_X12_ex M N post) : jg (d + 44) mX12_ex dm 0 [(0, .inr (.inr (3, 0, 0)))] [] M N (am_pi post) := j_mono (show 4 + 40 ≤ d + 44 by omega) ((k_rcM h3 40).2.2.2.1 _ _ _ h)
noncomputable def w_X12_product (M : am_I) (N : am_N) (post : Int32 → am_I → am_N → Prop) : Prop := rcM 40 4 M N post
theorem k_X12_product {d : Nat} {dm : List am_C} (h3 : am_d3 dm) {M : am_I} {N : am_N} {post : Int32 → am_I → am_N → Prop} (h : w_X12_product M N post) : jg (d + 44) mX12_product dm 0 [(0, .inr (.inr (3, 0, 0)))] [] M N (am_pi post) := j_mono (show 4 + 40 ≤ d + 44 by omega) ((k_rcM h3 40).2.2.2.2.1 _ _ _ h)
noncomputable def w_X12_atom (M : am_I) (N : am_N) (post : Int32 → am_I → am_N → Prop) : Prop := rcM 40 5 M N post
theorem k_X12_atom {d : Nat} {dm : List am_C} (h3 : am_d3 dm) {M : am_I} {N : am_N} {post : Int32 → am_I → am_N → Prop} (h : w_X12_atom M N post) : jg (d + 44) mX12_atom dm 0 [(0, .inr (.inr (3, 0, 0)))] [] M N (am_pi post) := j_mono (show 4 + 40 ≤ d + 44 by omega) ((k_rcM h3 40).2.2.2.2.2 _ _ _ h)
