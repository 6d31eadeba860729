/-! ===== what is reached in so many days ===== -/
def Rch (T S : Nat → Prop) : Nat → Nat → Prop
  | 0, c => S c
  | n + 1, c => T c ∧ (Rch T S n c ∨ ∃ k b, k < 4 ∧ besN c k = some b ∧ Rch T S n b)
section RC1
variable {T S : Nat → Prop} {M : am_I} {N : am_N} {postL : Int64 → am_I → am_N → Prop} {x t : Int64}
theorem Rch_T (hS : ∀ c, S c → T c) : ∀ n c, Rch T S n c → T c
  | 0, c, h => hS c h
  | _ + 1, _, h => h.1
theorem Rch_up (hS : ∀ c, S c → T c) (n c : Nat) (h : Rch T S n c) : Rch T S (n + 1) c := ⟨Rch_T hS n c h, Or.inl h⟩
theorem Rch_le (hS : ∀ c, S c → T c) {n c : Nat} (h : Rch T S n c) : ∀ j, Rch T S (n + j) c
  | 0 => h
  | j + 1 => Rch_up hS (n + j) c (Rch_le hS h j)
theorem Rch_fix {n : Nat} (hf : ∀ c, c < 64 → (Rch T S (n + 1) c ↔ Rch T S n c)) : ∀ j c, c < 64 → (Rch T S (n + j) c ↔ Rch T S n c)
  | 0, c, _ => Iff.rfl
  | j + 1, c, hc => by
    have ih := Rch_fix hf j
    rw [← Nat.add_assoc, ← hf c hc]
    show (T c ∧ (Rch T S (n + j) c ∨ ∃ k b, k < 4 ∧ besN c k = some b ∧ Rch T S (n + j) b)) ↔ (T c ∧ (Rch T S n c ∨ ∃ k b, k < 4 ∧ besN c k = some b ∧ Rch T S n b))
    constructor
    · rintro ⟨h1, h2 | ⟨k, b, hk, hb, h2⟩⟩
      · exact ⟨h1, Or.inl ((ih c hc).mp h2)⟩
      · exact ⟨h1, Or.inr ⟨k, b, hk, hb, (ih b (besN_lt c hc k hk b hb)).mp h2⟩⟩
    · rintro ⟨h1, h2 | ⟨k, b, hk, hb, h2⟩⟩
      · exact ⟨h1, Or.inl ((ih c hc).mpr h2)⟩
      · exact ⟨h1, Or.inr ⟨k, b, hk, hb, (ih b (besN_lt c hc k hk b hb)).mpr h2⟩⟩
def nbB (c b : Nat) : Bool := (besN c 0 == some b) || (besN c 1 == some b) || (besN c 2 == some b) || (besN c 3 == some b)
theorem nbB_t : ∀ c, c < 64 → ∀ b, b < 64 → nbB c b = (decide (b + 8 = c) || (decide (b + 1 = c) && decide (c % 8 ≠ 0)) || (decide (c + 1 = b) && decide (c % 8 ≠ 7)) || decide (c + 8 = b)) := by decide +kernel
theorem nb_iff {A : Nat → Prop} {c : Nat} (hc : c < 64) : (∃ k b, k < 4 ∧ besN c k = some b ∧ A b) ↔ (8 ≤ c ∧ A (c - 8)) ∨ (c % 8 ≠ 0 ∧ A (c - 1)) ∨ (c % 8 ≠ 7 ∧ A (c + 1)) ∨ (c < 56 ∧ A (c + 8)) := by
  have one : ∀ b, b < 64 → ((∃ k, k < 4 ∧ besN c k = some b) ↔ nbB c b = true) := fun b hb => by
    unfold nbB
    simp only [Bool.or_eq_true, beq_iff_eq]
    constructor
    · rintro ⟨k, hk, h⟩
      have : k = 0 ∨ k = 1 ∨ k = 2 ∨ k = 3 := by omega
      rcases this with r | r | r | r <;> subst r
      · exact Or.inl (Or.inl (Or.inl h))
      · exact Or.inl (Or.inl (Or.inr h))
      · exact Or.inl (Or.inr h)
      · exact Or.inr h
    · rintro (((h | h) | h) | h)
      · exact ⟨0, by omega, h⟩
      · exact ⟨1, by omega, h⟩
      · exact ⟨2, by omega, h⟩
      · exact ⟨3, by omega, h⟩
  constructor
  · rintro ⟨k, b, hk, hb, hA⟩
    have hb64 := besN_lt c hc k hk b hb
    have h1 := (one b hb64).mp ⟨k, hk, hb⟩
    rw [nbB_t c hc b hb64] at h1
    simp only [Bool.or_eq_true, Bool.and_eq_true, decide_eq_true_eq] at h1
    rcases h1 with ((h | h) | h) | h
    · exact Or.inl ⟨by omega, by rw [show c - 8 = b by omega]; exact hA⟩
    · exact Or.inr (Or.inl ⟨h.2, by rw [show c - 1 = b by omega]; exact hA⟩)
    · exact Or.inr (Or.inr (Or.inl ⟨h.2, by rw [h.1]; exact hA⟩))
    · exact Or.inr (Or.inr (Or.inr ⟨by omega, by rw [h]; exact hA⟩))
  · have back : ∀ b, b < 64 → (decide (b + 8 = c) || (decide (b + 1 = c) && decide (c % 8 ≠ 0)) || (decide (c + 1 = b) && decide (c % 8 ≠ 7)) || decide (c + 8 = b)) = true → A b → ∃ k b, k < 4 ∧ besN c k = some b ∧ A b := fun b hb h hA => by
      rw [← nbB_t c hc b hb] at h
      obtain ⟨k, hk, h⟩ := (one b hb).mpr h
      exact ⟨k, b, hk, h, hA⟩
    rintro (⟨h1, h2⟩ | ⟨h1, h2⟩ | ⟨h1, h2⟩ | ⟨h1, h2⟩)
    · exact back (c - 8) (by omega) (by simp only [Bool.or_eq_true, Bool.and_eq_true, decide_eq_true_eq]; omega) h2
    · exact back (c - 1) (by omega) (by simp only [Bool.or_eq_true, Bool.and_eq_true, decide_eq_true_eq]; omega) h2
    · exact back (c + 1) (by omega) (by simp [h1]) h2
    · exact back (c + 8) (by omega) (by simp) h2
theorem tb_mL : ∀ i, i < 64 → tb 9187201950435737471 i = decide (i % 8 ≠ 7) := by decide +kernel
theorem tb_mF : ∀ i, i < 64 → tb (-72340172838076674) i = decide (i % 8 ≠ 0) := by decide +kernel
theorem c_stepped {A : Nat → Prop} (hA : ∀ c, c < 64 → (tb x c = true ↔ A c)) (hT : ∀ c, c < 64 → (tb t c = true ↔ T c)) (h : ∀ y, (∀ c, c < 64 → (tb y c = true ↔ T c ∧ (A c ∨ ∃ k b, k < 4 ∧ besN c k = some b ∧ A b))) → postL y M N) : w_X4_stepped x t M N postL := by
  unfold w_X4_stepped
  intro z ez
  subst ez
  refine h _ (fun c hc => ?_)
  rw [tb_and, tb_or, tb_or, tb_or, tb_or, tb_shl _ 1 (by decide) hc, tb_shr _ 1 (by decide), tb_shl _ 8 (by decide) hc, tb_shr _ 8 (by decide), nb_iff hc]
  simp only [Bool.and_eq_true, Bool.or_eq_true]
  rw [hT c hc, hA c hc]
  have s1 : (if c < 1 then false else tb (x &&& 9187201950435737471) (c - 1)) = true ↔ c % 8 ≠ 0 ∧ A (c - 1) := by
    by_cases e : c < 1
    · rw [if_pos e]
      exact ⟨fun z => absurd z (by decide), fun z => absurd (show c % 8 = 0 by omega) z.1⟩
    · rw [if_neg e, tb_and, tb_mL (c - 1) (by omega), Bool.and_eq_true, hA (c - 1) (by omega), decide_eq_true_eq]
      constructor
      · rintro ⟨h1, h2⟩; exact ⟨by omega, h1⟩
      · rintro ⟨h1, h2⟩; exact ⟨h2, by omega⟩
  have s2 : tb (x &&& (-72340172838076674)) (1 + c) = true ↔ c % 8 ≠ 7 ∧ A (c + 1) := by
    rw [tb_and, Bool.and_eq_true]
    by_cases e : c = 63
    · subst e
      rw [tb_big x (by omega)]
      exact ⟨fun z => absurd z.1 (by decide), fun z => absurd (show 63 % 8 = 7 by decide) z.1⟩
    · rw [Nat.add_comm 1 c, tb_mF (c + 1) (by omega), hA (c + 1) (by omega), decide_eq_true_eq]
      constructor
      · rintro ⟨h1, h2⟩; exact ⟨by omega, h1⟩
      · rintro ⟨h1, h2⟩; exact ⟨h2, by omega⟩
  have s3 : (if c < 8 then false else tb x (c - 8)) = true ↔ 8 ≤ c ∧ A (c - 8) := by
    by_cases e : c < 8
    · rw [if_pos e]
      exact ⟨fun z => absurd z (by decide), fun z => by omega⟩
    · rw [if_neg e, hA (c - 8) (by omega)]
      exact ⟨fun z => ⟨by omega, z⟩, fun z => z.2⟩
  have s4 : tb x (8 + c) = true ↔ c < 56 ∧ A (c + 8) := by
    by_cases e : c < 56
    · rw [Nat.add_comm 8 c, hA (c + 8) (by omega)]
      exact ⟨fun z => ⟨e, z⟩, fun z => z.2⟩
    · rw [tb_big x (by omega)]
      exact ⟨fun z => absurd z (by decide), fun z => absurd z.1 e⟩
  rw [s1, s2, s3, s4]
  constructor
  · rintro ⟨((h1 | h1 | h1) | h1) | h1, hT⟩
    · exact ⟨hT, Or.inl h1⟩
    · exact ⟨hT, Or.inr (Or.inr (Or.inl h1))⟩
    · exact ⟨hT, Or.inr (Or.inr (Or.inr (Or.inl h1)))⟩
    · exact ⟨hT, Or.inr (Or.inl h1)⟩
    · exact ⟨hT, Or.inr (Or.inr (Or.inr (Or.inr h1)))⟩
  · rintro ⟨hT, h1 | h1 | h1 | h1 | h1⟩
    · exact ⟨Or.inl (Or.inl (Or.inl h1)), hT⟩
    · exact ⟨Or.inl (Or.inr h1), hT⟩
    · exact ⟨Or.inl (Or.inl (Or.inr (Or.inl h1))), hT⟩
    · exact ⟨Or.inl (Or.inl (Or.inr (Or.inr h1))), hT⟩
    · exact ⟨Or.inr h1, hT⟩
theorem c_reached {d : Nat} (hd : d < 2 ^ 31) (hA : ∀ c, c < 64 → (tb x c = true ↔ S c)) (hT : ∀ c, c < 64 → (tb t c = true ↔ T c)) (h : ∀ y, (∀ c, c < 64 → (tb y c = true ↔ Rch T S d c)) → postL y M N) : w_X4_reached x t (nI d) M N postL := by
  unfold w_X4_reached
  refine ⟨d + 1, ?_⟩
  have key : ∀ (j n : Nat), n + j = d → ∀ y, (∀ c, c < 64 → (tb y c = true ↔ Rch T S n c)) → w_X4_reached_p6 postL (j + 1) t (nI d) y (nI n) M N := by
    intro j
    induction j with
    | zero =>
      intro n hn y hy
      have hn' : n = d := by omega
      subst hn'
      rw [w_X4_reached_p6_s]
      unfold w_X4_reached_p6_b
      exact ⟨fun _ => h y hy, fun z => absurd (nI_le (Nat.le_refl _) hd) z⟩
    | succ j ih =>
      intro n hn y hy
      rw [w_X4_reached_p6_s]
      unfold w_X4_reached_p6_b
      rw [nI_1]
      refine ⟨fun z => absurd z (nI_ge (by omega) hd), fun _ => c_stepped hy hT (fun y2 hy2 => ⟨fun _ => ih (n + 1) (by omega) y2 hy2, fun e => h y (fun c hc => ?_)⟩)⟩
      subst e
      have hf : ∀ c, c < 64 → (Rch T S (n + 1) c ↔ Rch T S n c) := fun c hc => (hy2 c hc).symm.trans (hy c hc)
      rw [hy c hc, ← hn]
      exact (Rch_fix hf (j + 1) c hc).symm
  exact key d 0 (by omega) x hA
end RC1
