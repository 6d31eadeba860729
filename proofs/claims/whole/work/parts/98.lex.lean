/-! ===== bytes, tokens: the pure side ===== -/
def grp (x : Nat) : Nat := if x = 32 ∨ x = 10 then 0 else if 97 ≤ x ∧ x ≤ 122 then 1 else if 48 ≤ x ∧ x ≤ 57 then 2 else 3
def sbI (x : Nat) : Int32 := (nI x).toInt8.toInt32
theorem sb_lo : ∀ x, x < 128 → sbI x = nI x := by decide +kernel
theorem sb_hi : ∀ x, x < 256 → 128 ≤ x → sbI x < 0 := by decide +kernel
theorem grp_hi {x : Nat} (h : 128 ≤ x) : grp x = 3 := by
  unfold grp
  rw [if_neg (by omega), if_neg (by omega), if_neg (by omega)]
theorem grp_0 {x : Nat} : grp x = 0 ↔ x = 32 ∨ x = 10 := by
  unfold grp
  by_cases h : x = 32 ∨ x = 10
  · rw [if_pos h]; exact ⟨fun _ => h, fun _ => rfl⟩
  · rw [if_neg h]
    refine ⟨fun z => ?_, fun z => absurd z h⟩
    by_cases h1 : 97 ≤ x ∧ x ≤ 122
    · rw [if_pos h1] at z; omega
    · rw [if_neg h1] at z
      by_cases h2 : 48 ≤ x ∧ x ≤ 57
      · rw [if_pos h2] at z; omega
      · rw [if_neg h2] at z; omega
theorem grp_1 {x : Nat} : grp x = 1 ↔ 97 ≤ x ∧ x ≤ 122 := by
  unfold grp
  by_cases h : x = 32 ∨ x = 10
  · rw [if_pos h]; omega
  · rw [if_neg h]
    by_cases h1 : 97 ≤ x ∧ x ≤ 122
    · rw [if_pos h1]; exact ⟨fun _ => h1, fun _ => rfl⟩
    · rw [if_neg h1]
      by_cases h2 : 48 ≤ x ∧ x ≤ 57
      · rw [if_pos h2]; omega
      · rw [if_neg h2]; omega
theorem grp_2 {x : Nat} : grp x = 2 ↔ 48 ≤ x ∧ x ≤ 57 := by
  unfold grp
  by_cases h : x = 32 ∨ x = 10
  · rw [if_pos h]; omega
  · rw [if_neg h]
    by_cases h1 : 97 ≤ x ∧ x ≤ 122
    · rw [if_pos h1]; omega
    · rw [if_neg h1]
      by_cases h2 : 48 ≤ x ∧ x ≤ 57
      · rw [if_pos h2]; exact ⟨fun _ => h2, fun _ => rfl⟩
      · rw [if_neg h2]; omega
theorem grp_le (x : Nat) : grp x = 0 ∨ grp x = 1 ∨ grp x = 2 ∨ grp x = 3 := by
  unfold grp
  by_cases h : x = 32 ∨ x = 10
  · rw [if_pos h]; omega
  · rw [if_neg h]
    by_cases h1 : 97 ≤ x ∧ x ≤ 122
    · rw [if_pos h1]; omega
    · rw [if_neg h1]
      by_cases h2 : 48 ≤ x ∧ x ≤ 57
      · rw [if_pos h2]; omega
      · rw [if_neg h2]; omega
theorem sb_eq {x s : Nat} (hx : x < 256) (hs : s < 128) : sbI x = nI s ↔ x = s := by
  by_cases h : x < 128
  · rw [sb_lo x h]
    exact nI_eq (by omega) (by omega)
  · refine ⟨fun z => ?_, fun z => by omega⟩
    have := sb_hi x hx (by omega)
    rw [z] at this
    exact absurd this (nI_pos (by omega))
theorem sb_lt {x s : Nat} (hx : x < 256) (hs : s < 128) : ¬ sbI x < nI s ↔ s ≤ x ∧ x < 128 := by
  by_cases h : x < 128
  · rw [sb_lo x h, nI_ltI (by omega) (by omega)]
    omega
  · refine ⟨fun z => absurd (Int32.lt_of_lt_of_le (sb_hi x hx (by omega)) (nI_pos' (by omega))) z, fun z => by omega⟩
def stB (t : Nat → Nat) (p : Nat) : Bool := grp (t p) != 0 && (grp (t p) == 3 || p == 0 || grp (t (p - 1)) != grp (t p))
def cs (t : Nat → Nat) : Nat → Nat
  | 0 => 0
  | p + 1 => cs t p + (if stB t p = true then 1 else 0)
def TK (t : Nat → Nat) (n p : Nat) : Prop := p ≤ n ∧ (p < n → stB t p = true)
def NB (t : Nat → Nat) (n a p : Nat) : Prop := a ≤ p ∧ p ≤ n ∧ (∀ r, a ≤ r → r < p → grp (t r) = 0) ∧ (p < n → grp (t p) ≠ 0)
def runE (t : Nat → Nat) (n g : Nat) : Nat → Nat → Nat
  | 0, p => p
  | k + 1, p => if p < n ∧ grp (t p) = g then runE t n g k (p + 1) else p
def enT (t : Nat → Nat) (n p : Nat) : Nat := if grp (t p) = 3 then p + 1 else runE t n (grp (t p)) (n - p) p
def nxT (t : Nat → Nat) (n p : Nat) : Nat := runE t n 0 (n - enT t n p) (enT t n p)
section LX
variable {t : Nat → Nat} {n p q g a : Nat}
theorem runE_sp : ∀ k p, p + k = n → p ≤ runE t n g k p ∧ runE t n g k p ≤ n ∧ (∀ r, p ≤ r → r < runE t n g k p → grp (t r) = g) ∧ (runE t n g k p < n → grp (t (runE t n g k p)) ≠ g)
  | 0, p, h => ⟨Nat.le_refl _, by show p ≤ n; omega, fun r h1 h2 => by have : r < p := h2; omega, fun z => by have : p < n := z; omega⟩
  | k + 1, p, h => by
    show p ≤ (if p < n ∧ grp (t p) = g then runE t n g k (p + 1) else p) ∧ (if p < n ∧ grp (t p) = g then runE t n g k (p + 1) else p) ≤ n ∧ (∀ r, p ≤ r → r < (if p < n ∧ grp (t p) = g then runE t n g k (p + 1) else p) → grp (t r) = g) ∧ ((if p < n ∧ grp (t p) = g then runE t n g k (p + 1) else p) < n → grp (t (if p < n ∧ grp (t p) = g then runE t n g k (p + 1) else p)) ≠ g)
    by_cases e : p < n ∧ grp (t p) = g
    · rw [if_pos e]
      obtain ⟨h1, h2, h3, h4⟩ := runE_sp k (p + 1) (by omega)
      refine ⟨by omega, h2, fun r q1 q2 => ?_, h4⟩
      by_cases er : r = p
      · subst er; exact e.2
      · exact h3 r (by omega) q2
    · rw [if_neg e]
      exact ⟨Nat.le_refl _, by omega, fun r q1 q2 => by omega, fun z w => e ⟨z, w⟩⟩
theorem stB_iff : stB t p = true ↔ grp (t p) ≠ 0 ∧ (grp (t p) = 3 ∨ p = 0 ∨ grp (t (p - 1)) ≠ grp (t p)) := by
  unfold stB
  simp only [Bool.and_eq_true, Bool.or_eq_true, bne_iff_ne, beq_iff_eq, ne_eq]
  exact ⟨fun h => ⟨h.1, by rcases h.2 with (h | h) | h <;> simp [h]⟩, fun h => ⟨h.1, by rcases h.2 with h | h | h <;> simp [h]⟩⟩
theorem NB.uni {p q : Nat} (h1 : NB t n a p) (h2 : NB t n a q) : p = q := by
  rcases Nat.lt_trichotomy p q with h | h | h
  · exact absurd (h2.2.2.1 p h1.1 h) (h1.2.2.2 (by have := h2.2.1; omega))
  · exact h
  · exact absurd (h1.2.2.1 q h2.1 h) (h2.2.2.2 (by have := h1.2.1; omega))
theorem NB_ex (h : a ≤ n) : NB t n a (runE t n 0 (n - a) a) := by
  obtain ⟨h1, h2, h3, h4⟩ := runE_sp (t := t) (n := n) (g := 0) (n - a) a (by omega)
  exact ⟨h1, h2, h3, h4⟩
theorem NB.self (h : NB t n a p) : NB t n p p := ⟨Nat.le_refl _, h.2.1, fun r h1 h2 => by omega, h.2.2.2⟩
theorem TK.nb (h : TK t n p) : NB t n p p := ⟨Nat.le_refl _, h.1, fun r h1 h2 => by omega, fun z => (stB_iff.mp (h.2 z)).1⟩
theorem cs_flat : ∀ k p, (∀ r, p ≤ r → r < p + k → ¬ stB t r = true) → cs t (p + k) = cs t p
  | 0, _, _ => rfl
  | k + 1, p, h => by
    show cs t (p + k) + (if stB t (p + k) = true then 1 else 0) = cs t p
    rw [if_neg (h (p + k) (by omega) (by omega)), cs_flat k p (fun r h1 h2 => h r h1 (by omega)), Nat.add_zero]
theorem cs_mono {p q : Nat} (h : p ≤ q) : cs t p ≤ cs t q := by
  have key : ∀ k, cs t p ≤ cs t (p + k) := by
    intro k
    induction k with
    | zero => exact Nat.le_refl _
    | succ k ih =>
      show cs t p ≤ cs t (p + k) + (if stB t (p + k) = true then 1 else 0)
      omega
  have := key (q - p)
  rw [show p + (q - p) = q by omega] at this
  exact this
theorem cs_le : ∀ p, cs t p ≤ p
  | 0 => Nat.le_refl _
  | p + 1 => by
    have := cs_le p
    show cs t p + (if stB t p = true then 1 else 0) ≤ p + 1
    by_cases e : stB t p = true
    · rw [if_pos e]; omega
    · rw [if_neg e]; omega
theorem cs_s1 (h : stB t p = true) : cs t (p + 1) = cs t p + 1 := by
  show cs t p + (if stB t p = true then 1 else 0) = _
  rw [if_pos h]
theorem cs_s0 (h : ¬ stB t p = true) : cs t (p + 1) = cs t p := by
  show cs t p + (if stB t p = true then 1 else 0) = _
  rw [if_neg h]
  rfl
/-- the first token -/
theorem TK_0 (h : NB t n 0 p) : TK t n p ∧ cs t p = 0 := by
  refine ⟨⟨h.2.1, fun z => stB_iff.mpr ⟨h.2.2.2 z, ?_⟩⟩, ?_⟩
  · by_cases e : p = 0
    · exact Or.inr (Or.inl e)
    · refine Or.inr (Or.inr fun w => h.2.2.2 z ?_)
      rw [← w]
      exact h.2.2.1 (p - 1) (by omega) (by omega)
  · have := cs_flat (t := t) p 0 (fun r h1 h2 w => (stB_iff.mp w).1 (h.2.2.1 r h1 (by omega)))
    rw [Nat.zero_add] at this
    exact this
theorem enT_sp (h : TK t n p) (hp : p < n) : p < enT t n p ∧ enT t n p ≤ n ∧ (∀ r, p ≤ r → r < enT t n p → grp (t r) = grp (t p)) ∧ (grp (t p) ≠ 3 → enT t n p < n → grp (t (enT t n p)) ≠ grp (t p)) ∧ (grp (t p) = 3 → enT t n p = p + 1) := by
  unfold enT
  by_cases e : grp (t p) = 3
  · rw [if_pos e]
    exact ⟨by omega, by omega, fun r h1 h2 => by rw [show r = p by omega], fun z => absurd e z, fun _ => rfl⟩
  · rw [if_neg e]
    obtain ⟨h1, h2, h3, h4⟩ := runE_sp (t := t) (n := n) (g := grp (t p)) (n - p) p (by omega)
    refine ⟨?_, h2, h3, fun _ => h4, fun z => absurd z e⟩
    rcases Nat.lt_or_ge p (runE t n (grp (t p)) (n - p) p) with w | w
    · exact w
    · exfalso
      have : runE t n (grp (t p)) (n - p) p = p := by omega
      rw [this] at h4
      exact h4 hp rfl
/-- the next token -/
theorem nx_sp (h : TK t n p) (hp : p < n) : NB t n (enT t n p) (nxT t n p) ∧ TK t n (nxT t n p) ∧ cs t (nxT t n p) = cs t p + 1 ∧ p < nxT t n p := by
  obtain ⟨h1, h2, h3, h4, h5⟩ := enT_sp h hp
  have hb := NB_ex (t := t) (n := n) (a := enT t n p) h2
  have hst := h.2 hp
  have g0 := (stB_iff.mp hst).1
  show NB t n (enT t n p) (runE t n 0 (n - enT t n p) (enT t n p)) ∧ TK t n (runE t n 0 (n - enT t n p) (enT t n p)) ∧ cs t (runE t n 0 (n - enT t n p) (enT t n p)) = cs t p + 1 ∧ p < runE t n 0 (n - enT t n p) (enT t n p)
  generalize runE t n 0 (n - enT t n p) (enT t n p) = q at hb
  have b1 := hb.1
  refine ⟨hb, ⟨hb.2.1, fun z => stB_iff.mpr ⟨hb.2.2.2 z, ?_⟩⟩, ?_, by omega⟩
  · by_cases e : q = enT t n p
    · by_cases g3 : grp (t p) = 3
      · have e1 := h5 g3
        by_cases g3q : grp (t q) = 3
        · exact Or.inl g3q
        · refine Or.inr (Or.inr fun w => g3q ?_)
          rw [← w, show q - 1 = p by omega]
          exact g3
      · refine Or.inr (Or.inr fun w => ?_)
        rw [h3 (q - 1) (by omega) (by omega)] at w
        subst e
        exact h4 g3 z w.symm
    · refine Or.inr (Or.inr fun w => hb.2.2.2 z ?_)
      rw [← w]
      exact hb.2.2.1 (q - 1) (by omega) (by omega)
  · have f1 : cs t (p + 1 + (q - (p + 1))) = cs t (p + 1) := cs_flat _ _ (fun r w1 w2 w3 => by
      have w4 := stB_iff.mp w3
      by_cases er : r < enT t n p
      · have g1 := h3 r (by omega) er
        have g2 := h3 (r - 1) (by omega) (by omega)
        rcases w4.2 with w | w | w
        · have := h5 (by rw [← g1]; exact w)
          omega
        · omega
        · exact w (by rw [g2, g1])
      · exact w4.1 (hb.2.2.1 r (by omega) (by omega)))
    rw [show p + 1 + (q - (p + 1)) = q by omega, cs_s1 hst] at f1
    exact f1
/-! letters as one number -/
def wN (t : Nat → Nat) : Nat → Nat → Nat
  | 0, _ => 0
  | k + 1, p => wN t k p * 256 + t (p + k)
def nN (t : Nat → Nat) : Nat → Nat → Nat
  | 0, _ => 0
  | k + 1, p => nN t k p * 10 + (t (p + k) - 48)
theorem wN_lt : ∀ k p, (∀ i, i < k → t (p + i) < 256) → wN t k p < 256 ^ k
  | 0, _, _ => by
    show 0 < 256 ^ 0
    decide
  | k + 1, p, h => by
    have ih := wN_lt k p (fun i hi => h i (by omega))
    have h1 := h k (by omega)
    show wN t k p * 256 + t (p + k) < 256 ^ (k + 1)
    rw [Nat.pow_succ]
    omega
theorem nN_lt : ∀ k p, (∀ i, i < k → grp (t (p + i)) = 2) → nN t k p < 10 ^ k
  | 0, _, _ => by
    show 0 < 10 ^ 0
    decide
  | k + 1, p, h => by
    have ih := nN_lt k p (fun i hi => h i (by omega))
    have h1 := grp_2.mp (h k (by omega))
    show nN t k p * 10 + (t (p + k) - 48) < 10 ^ (k + 1)
    rw [Nat.pow_succ]
    omega
theorem wN_inj {g : Nat → Nat} : ∀ k m, (∀ i, i < k → 0 < t (p + i) ∧ t (p + i) < 256) → (∀ i, i < m → 0 < g i ∧ g i < 256) → wN t k p = wN g m 0 → k = m ∧ ∀ i, i < k → t (p + i) = g i
  | 0, 0, _, _, _ => ⟨rfl, fun i hi => absurd hi (Nat.not_lt_zero _)⟩
  | 0, m + 1, _, h2, e => by
    exfalso
    have e2 : 0 = wN g m 0 * 256 + g (0 + m) := e
    have := h2 m (by omega)
    rw [Nat.zero_add] at e2
    omega
  | k + 1, 0, h1, _, e => by
    exfalso
    have e2 : wN t k p * 256 + t (p + k) = 0 := e
    have := h1 k (by omega)
    omega
  | k + 1, m + 1, h1, h2, e => by
    have e2 : wN t k p * 256 + t (p + k) = wN g m 0 * 256 + g (0 + m) := e
    rw [Nat.zero_add] at e2
    have q1 := h1 k (by omega)
    have q2 := h2 m (by omega)
    obtain ⟨i1, i2⟩ := wN_inj k m (fun i hi => h1 i (by omega)) (fun i hi => h2 i (by omega)) (by omega)
    subst i1
    refine ⟨rfl, fun i hi => ?_⟩
    by_cases ei : i = k
    · subst ei; omega
    · exact i2 i (by omega)
theorem wN_cg {g : Nat → Nat} : ∀ k, (∀ i, i < k → t (p + i) = g i) → wN t k p = wN g k 0
  | 0, _ => rfl
  | k + 1, h => by
    show wN t k p * 256 + t (p + k) = wN g k 0 * 256 + g (0 + k)
    rw [wN_cg k (fun i hi => h i (by omega)), h k (by omega), Nat.zero_add]
end LX
def wordV (w : Nat) : Int32 := if w = 1952541541 then 1 else if w = 1819242347 then 2 else if w = 465557354085 then 3 else if w = 1734964837 then 4 else if w = 26982 then 5 else if w = 28530 then 6 else if w = 6385252 then 7 else if w = 7237492 then 8 else if w = 2003133796 then 9 else if w = 7824756 then 10 else if w = 482955588467 then 11 else if w = 465726040947 then 12 else if w = 1936292453 then 13 else if w = 6909036 then 14 else if w = 1918986606 then 15 else if w = 444150998382 then 16 else -1
def sgB (x : Nat) : Bool := x == 59 || x == 43 || x == 45 || x == 42 || x == 47 || x == 40 || x == 41 || x == 91 || x == 93 || x == 60 || x == 62 || x == 61
def tokV (t : Nat → Nat) (n p : Nat) : Int32 := if n ≤ p then 0 else if grp (t p) = 3 then (if sgB (t p) = true then nI (t p) else -1) else if grp (t p) = 1 then (if enT t n p - p ≤ 7 then wordV (wN t (enT t n p - p) p) else -1) else (if enT t n p - p ≤ 5 then nI (1000 + nN t (enT t n p - p) p) else -1)
