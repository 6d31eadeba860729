/-! ===== walks over the field: k steps from a to b, entering cells of which 'ok' holds, at the cost C ===== -/
def wk (nb : Nat → Nat → Prop) (ok : Nat → Prop) (h : Nat → Nat) : Nat → Nat → Nat → Nat → Prop
  | 0, a, b, C => a = b ∧ C = 0
  | k + 1, a, b, C => ∃ c D, nb a c ∧ ok c ∧ wk nb ok h k c b D ∧ C = h c + D
section WK
variable {nb : Nat → Nat → Prop} {ok : Nat → Prop} {h : Nat → Nat}
theorem wk_snoc : ∀ {k a b C c : Nat}, wk nb ok h k a b C → nb b c → ok c → wk nb ok h (k + 1) a c (C + h c)
  | 0, a, b, C, c, ⟨e1, e2⟩, h1, h2 => ⟨c, 0, e1 ▸ h1, h2, ⟨rfl, rfl⟩, by omega⟩
  | k + 1, a, b, C, c, ⟨x, D, q1, q2, q3, q4⟩, h1, h2 => ⟨x, D + h c, q1, q2, wk_snoc q3 h1 h2, by omega⟩
theorem wk_last : ∀ {k a c C : Nat}, wk nb ok h (k + 1) a c C → ∃ b D, wk nb ok h k a b D ∧ nb b c ∧ ok c ∧ C = D + h c
  | 0, a, c, C, ⟨x, D, q1, q2, ⟨e1, e2⟩, q4⟩ => ⟨a, 0, ⟨rfl, rfl⟩, e1 ▸ q1, e1 ▸ q2, by subst e1; omega⟩
  | k + 1, a, c, C, ⟨x, D, q1, q2, q3, q4⟩ => by
    obtain ⟨b, E, r1, r2, r3, r4⟩ := wk_last q3
    exact ⟨b, h x + E, ⟨x, E, q1, q2, r1, rfl⟩, r2, r3, by omega⟩
/-- the best pair is one and the same, whatever the number that a cost counts for -/
theorem wk_same {P : Nat → Nat → Prop} {K1 K2 C1 k1 C2 k2 : Nat} (hK1 : 64 < K1) (hK2 : 64 < K2) (p1 : P k1 C1) (b1 : k1 ≤ 64) (m1 : ∀ k C, P k C → K1 * C1 + k1 ≤ K1 * C + k) (p2 : P k2 C2) (b2 : k2 ≤ 64) (m2 : ∀ k C, P k C → K2 * C2 + k2 ≤ K2 * C + k) : C1 = C2 ∧ k1 = k2 := by
  have a1 := m1 _ _ p2
  have a2 := m2 _ _ p1
  have lem : ∀ {K A a B b : Nat}, 64 < K → b ≤ 64 → K * A + a ≤ K * B + b → A ≤ B := by
    intro K A a B b hK hb hle
    rcases Nat.lt_or_ge B A with hlt | hge
    · have h1 : K * (B + 1) ≤ K * A := Nat.mul_le_mul_left K hlt
      rw [Nat.mul_add] at h1
      omega
    · exact hge
  have e1 := lem hK1 b2 a1
  have e2 := lem hK2 b1 a2
  have e : C1 = C2 := by omega
  subst e
  exact ⟨rfl, by omega⟩
def isLeast (S : Nat → Prop) (m : Nat) : Prop := S m ∧ ∀ x, S x → m ≤ x
theorem isLeast_uniq {S : Nat → Prop} {a b : Nat} (ha : isLeast S a) (hb : isLeast S b) : a = b := Nat.le_antisymm (ha.2 b hb.1) (hb.2 a ha.1)
theorem isLeast_congr {S T : Nat → Prop} {a : Nat} (h : ∀ x, S x ↔ T x) (ha : isLeast S a) : isLeast T a := ⟨(h a).mp ha.1, fun x hx => ha.2 x ((h x).mpr hx)⟩
/-! ### Dijkstra from a start s, as the class does it: key = 128 times the cost and the steps; 'first': the least first cell of a best way -/
/-- while it runs: R the cells that have a key, Dn those that were taken; sd p c: the step from p to c was looked at -/
def djk (nb : Nat → Nat → Prop) (ok : Nat → Prop) (h : Nat → Nat) (s nd : Nat) (R Dn : Nat → Prop) (sd : Nat → Nat → Prop) (key fi : Nat → Nat) : Prop :=
  (R s ∧ key s = 0 ∧ fi s = s) ∧ (∀ c, Dn c → R c) ∧
  (∀ c, R c → ∃ k C, wk nb ok h k s c C ∧ key c = 128 * C + k ∧ k ≤ nd ∧ C ≤ 9999 * k) ∧
  (∀ p c, sd p c → Dn p ∧ nb p c ∧ ok c ∧ R c ∧ key c ≤ key p + (128 * h c + 1)) ∧
  (∀ p c, Dn p → R c → ¬ Dn c → key p ≤ key c) ∧
  (∀ c, R c → c ≠ s → isLeast (fun x => ∃ p, sd p c ∧ key p + (128 * h c + 1) = key c ∧ x = (if p = s then c else fi p)) (fi c))
/-- at its end -/
def djkEnd (nb : Nat → Nat → Prop) (ok : Nat → Prop) (h : Nat → Nat) (s nd : Nat) (R : Nat → Prop) (key fi : Nat → Nat) : Prop :=
  djk nb ok h s nd R R (fun p c => R p ∧ nb p c ∧ ok c) key fi
theorem djkEnd_le {s nd : Nat} {R : Nat → Prop} {key fi : Nat → Nat} (D : djkEnd nb ok h s nd R key fi) : ∀ {k c C : Nat}, wk nb ok h k s c C → R c ∧ key c ≤ 128 * C + k := by
  obtain ⟨⟨d1, d2, d3⟩, d4, d5, d6, d7, d8⟩ := D
  intro k
  induction k with
  | zero =>
    intro c C hw
    obtain ⟨e1, e2⟩ := hw
    subst e1
    exact ⟨d1, by omega⟩
  | succ k ih =>
    intro c C hw
    obtain ⟨b, E, r1, r2, r3, r4⟩ := wk_last hw
    obtain ⟨q1, q2⟩ := ih r1
    obtain ⟨-, -, -, q3, q4⟩ := d6 b c ⟨q1, r2, r3⟩
    exact ⟨q3, by omega⟩
/-- the first cells of the best ways to c -/
def fst_of (nb : Nat → Nat → Prop) (ok : Nat → Prop) (h : Nat → Nat) (s : Nat) (key : Nat → Nat) (c x : Nat) : Prop :=
  ∃ k C, nb s x ∧ ok x ∧ wk nb ok h k x c C ∧ 128 * (h x + C) + (k + 1) = key c
theorem djkEnd_first {s nd : Nat} {R : Nat → Prop} {key fi : Nat → Nat} (D : djkEnd nb ok h s nd R key fi) : ∀ (n c : Nat), key c < n → R c → c ≠ s → isLeast (fst_of nb ok h s key c) (fi c) := by
  have D0 := D
  obtain ⟨⟨d1, d2, d3⟩, d4, d5, d6, d7, d8⟩ := D
  intro n
  induction n with
  | zero => intro c hc; omega
  | succ n ih =>
    intro c hc hR hs
    obtain ⟨hmem, hmin⟩ := d8 c hR hs
    refine ⟨?_, fun x hx => ?_⟩
    · obtain ⟨p, ⟨hp, hpc, hoc⟩, hk, hx⟩ := hmem
      by_cases e : p = s
      · subst e
        rw [if_pos rfl] at hx
        exact ⟨0, 0, by rw [hx]; exact hpc, by rw [hx]; exact hoc, ⟨hx, rfl⟩, by rw [hx]; omega⟩
      · rw [if_neg e] at hx
        obtain ⟨k, C, q1, q2, q3, q4⟩ := (ih p (by omega) hp e).1
        rw [hx]
        exact ⟨k + 1, C + h c, q1, q2, wk_snoc q3 hpc hoc, by omega⟩
    · obtain ⟨k, C, q1, q2, q3, q4⟩ := hx
      cases k with
      | zero =>
        obtain ⟨e1, e2⟩ := q3
        subst e1
        exact hmin x ⟨s, ⟨d1, q1, q2⟩, by omega, by rw [if_pos rfl]⟩
      | succ k =>
        obtain ⟨p, E, r1, r2, r3, r4⟩ := wk_last q3
        have hwp : wk nb ok h (k + 1) s p (h x + E) := ⟨x, E, q1, q2, r1, rfl⟩
        obtain ⟨hRp, hle⟩ := djkEnd_le D0 hwp
        obtain ⟨-, -, -, -, hup⟩ := d6 p c ⟨hRp, r2, r3⟩
        have hkp : key p = 128 * (h x + E) + (k + 1) := by omega
        have hps : p ≠ s := by
          intro e
          subst e
          omega
        have hl := (ih p (by omega) hRp hps).2 x ⟨k, E, q1, q2, r1, by omega⟩
        have hm := hmin (fi p) ⟨p, ⟨hRp, r2, r3⟩, by omega, by rw [if_neg hps]⟩
        omega
/-- a step looked at: p was taken (all that was taken has no greater key), c lies beside it and may be entered: c had no key -/
theorem djk_new {s nd : Nat} {R Dn : Nat → Prop} {sd : Nat → Nat → Prop} {key fi : Nat → Nat} {p c : Nat} (D : djk nb ok h s nd R Dn sd key fi) (hp : Dn p) (hmax : ∀ q, Dn q → key q ≤ key p) (hpc : nb p c) (hoc : ok c) (hh : h c ≤ 9999)
    (hst : ∃ k C, wk nb ok h k s p C ∧ key p = 128 * C + k ∧ k + 1 ≤ nd ∧ C ≤ 9999 * k) (hRc : ¬ R c) {key' fi' : Nat → Nat} (hk1 : key' c = key p + (128 * h c + 1)) (hk2 : ∀ q, q ≠ c → key' q = key q) (hf1 : fi' c = (if p = s then c else fi p)) (hf2 : ∀ q, q ≠ c → fi' q = fi q) :
    djk nb ok h s nd (fun q => R q ∨ q = c) Dn (fun a b => sd a b ∨ (a = p ∧ b = c)) key' fi' := by
  obtain ⟨⟨d1, d2, d3⟩, d4, d5, d6, d7, d8⟩ := D
  obtain ⟨k0, C0, w1, w2, w3, w4⟩ := hst
  have hwk : wk nb ok h (k0 + 1) s c (C0 + h c) := wk_snoc w1 hpc hoc
  have hsc : s ≠ c := fun e => hRc (e ▸ d1)
  have hne : ∀ q, R q → q ≠ c := fun q hq e => hRc (e ▸ hq)
  refine ⟨⟨Or.inl d1, by rw [hk2 s hsc]; exact d2, by rw [hf2 s hsc]; exact d3⟩, fun q hq => Or.inl (d4 q hq), fun q hq => ?_, fun a b hab => ?_, fun a b ha hb hnb => ?_, fun q hq hqs => ?_⟩
  · rcases hq with hq | rfl
    · rw [hk2 q (hne q hq)]; exact d5 q hq
    · rw [hk1]; exact ⟨k0 + 1, C0 + h q, hwk, by omega, w3, by omega⟩
  · rcases hab with hab | ⟨rfl, rfl⟩
    · obtain ⟨r1, r2, r3, r4, r5⟩ := d6 a b hab
      rw [hk2 b (hne b r4), hk2 a (hne a (d4 a r1))]
      exact ⟨r1, r2, r3, Or.inl r4, r5⟩
    · rw [hk1, hk2 a (hne a (d4 a hp))]
      exact ⟨hp, hpc, hoc, Or.inr rfl, Nat.le_refl _⟩
  · rw [hk2 a (hne a (d4 a ha))]
    rcases hb with hb | rfl
    · rw [hk2 b (hne b hb)]; exact d7 a b ha hb hnb
    · rw [hk1]
      have := hmax a ha
      omega
  · rcases hq with hq | rfl
    · rw [hf2 q (hne q hq)]
      refine isLeast_congr (fun x => ?_) (d8 q hq hqs)
      constructor
      · rintro ⟨a, r1, r2, r3⟩
        have ha := d4 a (d6 a q r1).1
        refine ⟨a, Or.inl r1, ?_, ?_⟩
        · rw [hk2 a (hne a ha), hk2 q (hne q hq)]; exact r2
        · rw [r3, hf2 a (hne a ha)]
      · rintro ⟨a, r1, r2, r3⟩
        rcases r1 with r1 | ⟨-, e⟩
        · have ha := d4 a (d6 a q r1).1
          rw [hk2 a (hne a ha), hk2 q (hne q hq)] at r2
          rw [hf2 a (hne a ha)] at r3
          exact ⟨a, r1, r2, r3⟩
        · exact absurd e (hne q hq)
    · rw [hf1]
      refine ⟨⟨p, Or.inr ⟨rfl, rfl⟩, by rw [hk1, hk2 p (hne p (d4 p hp))], by rw [hf2 p (hne p (d4 p hp))]⟩, ?_⟩
      rintro x ⟨a, r1, r2, r3⟩
      rcases r1 with r1 | ⟨rfl, -⟩
      · exact absurd rfl (hne q (d6 a q r1).2.2.2.1)
      · rw [r3, hf2 a (hne a (d4 a hp))]
        exact Nat.le_refl _
/-- .. c had a greater key -/
theorem djk_less {s nd : Nat} {R Dn : Nat → Prop} {sd : Nat → Nat → Prop} {key fi : Nat → Nat} {p c : Nat} (D : djk nb ok h s nd R Dn sd key fi) (hp : Dn p) (hmax : ∀ q, Dn q → key q ≤ key p) (hpc : nb p c) (hoc : ok c) (hh : h c ≤ 9999)
    (hst : ∃ k C, wk nb ok h k s p C ∧ key p = 128 * C + k ∧ k + 1 ≤ nd ∧ C ≤ 9999 * k) (hRc : R c) (hlt : key p + (128 * h c + 1) < key c) {key' fi' : Nat → Nat} (hk1 : key' c = key p + (128 * h c + 1)) (hk2 : ∀ q, q ≠ c → key' q = key q) (hf1 : fi' c = (if p = s then c else fi p)) (hf2 : ∀ q, q ≠ c → fi' q = fi q) :
    djk nb ok h s nd R Dn (fun a b => sd a b ∨ (a = p ∧ b = c)) key' fi' := by
  obtain ⟨⟨d1, d2, d3⟩, d4, d5, d6, d7, d8⟩ := D
  obtain ⟨k0, C0, w1, w2, w3, w4⟩ := hst
  have hwk : wk nb ok h (k0 + 1) s c (C0 + h c) := wk_snoc w1 hpc hoc
  have hdc : ¬ Dn c := fun z => absurd (hmax c z) (by omega)
  have hsc : s ≠ c := by
    intro e
    subst e
    omega
  have hne : ∀ q, Dn q → q ≠ c := fun q hq e => hdc (e ▸ hq)
  refine ⟨⟨d1, by rw [hk2 s hsc]; exact d2, by rw [hf2 s hsc]; exact d3⟩, d4, fun q hq => ?_, fun a b hab => ?_, fun a b ha hb hnb => ?_, fun q hq hqs => ?_⟩
  · by_cases e : q = c
    · subst e; rw [hk1]; exact ⟨k0 + 1, C0 + h q, hwk, by omega, w3, by omega⟩
    · rw [hk2 q e]; exact d5 q hq
  · rcases hab with hab | ⟨rfl, rfl⟩
    · obtain ⟨r1, r2, r3, r4, r5⟩ := d6 a b hab
      rw [hk2 a (hne a r1)]
      refine ⟨r1, r2, r3, r4, ?_⟩
      by_cases e : b = c
      · subst e; rw [hk1]; omega
      · rw [hk2 b e]; exact r5
    · rw [hk1, hk2 a (hne a hp)]
      exact ⟨hp, hpc, hoc, hRc, Nat.le_refl _⟩
  · rw [hk2 a (hne a ha)]
    by_cases e : b = c
    · subst e
      rw [hk1]
      have := hmax a ha
      omega
    · rw [hk2 b e]; exact d7 a b ha hb hnb
  · by_cases e : q = c
    · subst e
      rw [hf1]
      refine ⟨⟨p, Or.inr ⟨rfl, rfl⟩, by rw [hk1, hk2 p (hne p hp)], by rw [hf2 p (hne p hp)]⟩, ?_⟩
      rintro x ⟨a, r1, r2, r3⟩
      rcases r1 with r1 | ⟨rfl, -⟩
      · obtain ⟨g1, g2, g3, g4, g5⟩ := d6 a q r1
        rw [hk1, hk2 a (hne a g1)] at r2
        omega
      · rw [r3, hf2 a (hne a hp)]
        exact Nat.le_refl _
    · rw [hf2 q e]
      refine isLeast_congr (fun x => ?_) (d8 q hq hqs)
      constructor
      · rintro ⟨a, r1, r2, r3⟩
        have ha := hne a (d6 a q r1).1
        refine ⟨a, Or.inl r1, ?_, ?_⟩
        · rw [hk2 a ha, hk2 q e]; exact r2
        · rw [r3, hf2 a ha]
      · rintro ⟨a, r1, r2, r3⟩
        rcases r1 with r1 | ⟨-, e2⟩
        · have ha := hne a (d6 a q r1).1
          rw [hk2 a ha, hk2 q e] at r2
          rw [hf2 a ha] at r3
          exact ⟨a, r1, r2, r3⟩
        · exact absurd e2 e
/-- .. c had the same key -/
theorem djk_like {s nd : Nat} {R Dn : Nat → Prop} {sd : Nat → Nat → Prop} {key fi : Nat → Nat} {p c : Nat} (D : djk nb ok h s nd R Dn sd key fi) (hp : Dn p) (hmax : ∀ q, Dn q → key q ≤ key p) (hpc : nb p c) (hoc : ok c) (hh : h c ≤ 9999)
    (hst : ∃ k C, wk nb ok h k s p C ∧ key p = 128 * C + k ∧ k + 1 ≤ nd ∧ C ≤ 9999 * k) (hRc : R c) (heq : key p + (128 * h c + 1) = key c) {fi' : Nat → Nat} (hf1 : fi' c = min (fi c) (if p = s then c else fi p)) (hf2 : ∀ q, q ≠ c → fi' q = fi q) :
    djk nb ok h s nd R Dn (fun a b => sd a b ∨ (a = p ∧ b = c)) key fi' := by
  obtain ⟨⟨d1, d2, d3⟩, d4, d5, d6, d7, d8⟩ := D
  have hdc : ¬ Dn c := fun z => absurd (hmax c z) (by omega)
  have hsc : s ≠ c := by
    intro e
    subst e
    omega
  have hne : ∀ q, Dn q → q ≠ c := fun q hq e => hdc (e ▸ hq)
  refine ⟨⟨d1, d2, by rw [hf2 s hsc]; exact d3⟩, d4, d5, fun a b hab => ?_, d7, fun q hq hqs => ?_⟩
  · rcases hab with hab | ⟨rfl, rfl⟩
    · exact d6 a b hab
    · exact ⟨hp, hpc, hoc, hRc, by omega⟩
  · by_cases e : q = c
    · subst e
      rw [hf1]
      obtain ⟨⟨a0, t1, t2, t3⟩, hmin⟩ := d8 q hq hqs
      have ha0 := hne a0 (d6 a0 q t1).1
      refine ⟨?_, ?_⟩
      · by_cases hle : fi q ≤ (if p = s then q else fi p)
        · rw [Nat.min_eq_left hle]
          exact ⟨a0, Or.inl t1, t2, by rw [hf2 a0 ha0]; exact t3⟩
        · rw [Nat.min_eq_right (by omega)]
          exact ⟨p, Or.inr ⟨rfl, rfl⟩, heq, by rw [hf2 p (hne p hp)]⟩
      · rintro x ⟨a, r1, r2, r3⟩
        rcases r1 with r1 | ⟨rfl, -⟩
        · rw [hf2 a (hne a (d6 a q r1).1)] at r3
          exact Nat.le_trans (Nat.min_le_left _ _) (hmin x ⟨a, r1, r2, r3⟩)
        · rw [hf2 a (hne a hp)] at r3
          rw [r3]
          exact Nat.min_le_right _ _
    · rw [hf2 q e]
      refine isLeast_congr (fun x => ?_) (d8 q hq hqs)
      constructor
      · rintro ⟨a, r1, r2, r3⟩
        exact ⟨a, Or.inl r1, r2, by rw [hf2 a (hne a (d6 a q r1).1)]; exact r3⟩
      · rintro ⟨a, r1, r2, r3⟩
        rcases r1 with r1 | ⟨-, e2⟩
        · rw [hf2 a (hne a (d6 a q r1).1)] at r3
          exact ⟨a, r1, r2, r3⟩
        · exact absurd e2 e
/-- .. c had a smaller key -/
theorem djk_more {s nd : Nat} {R Dn : Nat → Prop} {sd : Nat → Nat → Prop} {key fi : Nat → Nat} {p c : Nat} (D : djk nb ok h s nd R Dn sd key fi) (hp : Dn p) (hmax : ∀ q, Dn q → key q ≤ key p) (hpc : nb p c) (hoc : ok c) (hh : h c ≤ 9999)
    (hst : ∃ k C, wk nb ok h k s p C ∧ key p = 128 * C + k ∧ k + 1 ≤ nd ∧ C ≤ 9999 * k) (hRc : R c) (hgt : key c < key p + (128 * h c + 1)) :
    djk nb ok h s nd R Dn (fun a b => sd a b ∨ (a = p ∧ b = c)) key fi := by
  obtain ⟨⟨d1, d2, d3⟩, d4, d5, d6, d7, d8⟩ := D
  refine ⟨⟨d1, d2, d3⟩, d4, d5, fun a b hab => ?_, d7, fun q hq hqs => ?_⟩
  · rcases hab with hab | ⟨rfl, rfl⟩
    · exact d6 a b hab
    · exact ⟨hp, hpc, hoc, hRc, by omega⟩
  · refine isLeast_congr (fun x => ?_) (d8 q hq hqs)
    constructor
    · rintro ⟨a, r1, r2, r3⟩
      exact ⟨a, Or.inl r1, r2, r3⟩
    · rintro ⟨a, r1, r2, r3⟩
      rcases r1 with r1 | ⟨rfl, rfl⟩
      · exact ⟨a, r1, r2, r3⟩
      · omega
/-- a cell is taken: none that has a key and was not taken has a smaller one -/
theorem djk_take {s nd : Nat} {R Dn : Nat → Prop} {sd : Nat → Nat → Prop} {key fi : Nat → Nat} {p : Nat} (D : djk nb ok h s nd R Dn sd key fi) (hp : R p) (hmin : ∀ q, R q → ¬ Dn q → key p ≤ key q) :
    djk nb ok h s (nd + 1) R (fun q => Dn q ∨ q = p) sd key fi := by
  obtain ⟨d1, d4, d5, d6, d7, d8⟩ := D
  refine ⟨d1, fun c hc => hc.elim (d4 c) (fun e => e ▸ hp), fun c hc => ?_, fun a c hac => ?_, fun a c ha hc hn => ?_, d8⟩
  · obtain ⟨k, C, r1, r2, r3, r4⟩ := d5 c hc
    exact ⟨k, C, r1, r2, by omega, r4⟩
  · obtain ⟨r1, r2⟩ := d6 a c hac
    exact ⟨Or.inl r1, r2⟩
  · have hn1 : ¬ Dn c := fun z => hn (Or.inl z)
    rcases ha with ha | rfl
    · exact d7 a c ha hc hn1
    · exact hmin c hc hn1
/-! ### the same towards goals, as the reference does it: 1,000,000 times the cost and the steps -/
def bjk (nb : Nat → Nat → Prop) (ok : Nat → Prop) (h : Nat → Nat) (G : Nat → Prop) (nd : Nat) (R Dn : Nat → Prop) (sd : Nat → Nat → Prop) (aw : Nat → Nat) : Prop :=
  (∀ g, G g → R g ∧ aw g = 0) ∧ (∀ c, Dn c → R c) ∧
  (∀ c, R c → ∃ k C g, G g ∧ wk nb ok h k c g C ∧ aw c = 1000000 * C + k ∧ k ≤ nd ∧ C ≤ 9999 * k) ∧
  (∀ p c, sd p c → Dn p ∧ nb p c ∧ ok p ∧ R c ∧ aw c ≤ aw p + (1000000 * h p + 1)) ∧
  (∀ p c, Dn p → R c → ¬ Dn c → aw p ≤ aw c)
def bjkEnd (nb : Nat → Nat → Prop) (ok : Nat → Prop) (h : Nat → Nat) (G : Nat → Prop) (nd : Nat) (R : Nat → Prop) (aw : Nat → Nat) : Prop :=
  bjk nb ok h G nd R R (fun p c => R p ∧ nb p c ∧ ok p) aw
theorem bjkEnd_le {G : Nat → Prop} {nd : Nat} {R : Nat → Prop} {aw : Nat → Nat} (hsym : ∀ a b, nb a b → nb b a) (D : bjkEnd nb ok h G nd R aw) : ∀ {k x g C : Nat}, G g → wk nb ok h k x g C → R x ∧ aw x ≤ 1000000 * C + k := by
  obtain ⟨d1, d4, d5, d6, d7⟩ := D
  intro k
  induction k with
  | zero =>
    intro x g C hg hw
    obtain ⟨e1, e2⟩ := hw
    subst e1
    obtain ⟨r1, r2⟩ := d1 x hg
    exact ⟨r1, by omega⟩
  | succ k ih =>
    intro x g C hg hw
    obtain ⟨c, E, r1, r2, r3, r4⟩ := hw
    obtain ⟨q1, q2⟩ := ih hg r3
    obtain ⟨-, -, -, q3, q4⟩ := d6 c x ⟨q1, hsym _ _ r1, r2⟩
    exact ⟨q3, by omega⟩
theorem bjk_relax {G : Nat → Prop} {nd : Nat} {R Dn : Nat → Prop} {sd : Nat → Nat → Prop} {aw aw' : Nat → Nat} {p c : Nat} (hsym : ∀ a b, nb a b → nb b a) (D : bjk nb ok h G nd R Dn sd aw) (hp : Dn p) (hmax : ∀ q, Dn q → aw q ≤ aw p) (hpc : nb p c) (hop : ok p) (hh : h p ≤ 9999)
    (hst : ∃ k C g, G g ∧ wk nb ok h k p g C ∧ aw p = 1000000 * C + k ∧ k + 1 ≤ nd ∧ C ≤ 9999 * k) (hk0 : R c → aw' c = min (aw c) (aw p + (1000000 * h p + 1))) (hk1 : ¬ R c → aw' c = aw p + (1000000 * h p + 1)) (hk2 : ∀ q, q ≠ c → aw' q = aw q) :
    bjk nb ok h G nd (fun q => R q ∨ q = c) Dn (fun a b => sd a b ∨ (a = p ∧ b = c)) aw' := by
  obtain ⟨d1, d4, d5, d6, d7⟩ := D
  obtain ⟨k0, C0, g0, w0, w1, w2, w3, w4⟩ := hst
  have hwk : wk nb ok h (k0 + 1) c g0 (h p + C0) := ⟨p, C0, hsym _ _ hpc, hop, w1, rfl⟩
  have hle : aw' c ≤ aw p + (1000000 * h p + 1) := by
    by_cases hR : R c
    · rw [hk0 hR]; exact Nat.min_le_right _ _
    · rw [hk1 hR]; exact Nat.le_refl _
  have hdn : ∀ q, Dn q → aw' q = aw q := by
    intro q hq
    by_cases e : q = c
    · subst e
      have := hmax q hq
      rw [hk0 (d4 q hq)]
      exact Nat.min_eq_left (by omega)
    · exact hk2 q e
  have hup : ∀ q, R q → aw' q ≤ aw q := by
    intro q hq
    by_cases e : q = c
    · subst e; rw [hk0 hq]; exact Nat.min_le_left _ _
    · rw [hk2 q e]; exact Nat.le_refl _
  refine ⟨fun g hg => ?_, fun q hq => Or.inl (d4 q hq), fun q hq => ?_, fun a b hab => ?_, fun a b ha hb hnb => ?_⟩
  · obtain ⟨r1, r2⟩ := d1 g hg
    have := hup g r1
    exact ⟨Or.inl r1, by omega⟩
  · by_cases e : q = c
    · subst e
      by_cases hR : R q
      · rw [hk0 hR]
        by_cases hl : aw q ≤ aw p + (1000000 * h p + 1)
        · rw [Nat.min_eq_left hl]; exact d5 q hR
        · rw [Nat.min_eq_right (by omega)]; exact ⟨k0 + 1, h p + C0, g0, w0, hwk, by omega, w3, by omega⟩
      · rw [hk1 hR]; exact ⟨k0 + 1, h p + C0, g0, w0, hwk, by omega, w3, by omega⟩
    · rcases hq with hq | hq
      · rw [hk2 q e]; exact d5 q hq
      · exact absurd hq e
  · rcases hab with hab | ⟨rfl, rfl⟩
    · obtain ⟨r1, r2, r3, r4, r5⟩ := d6 a b hab
      rw [hdn a r1]
      exact ⟨r1, r2, r3, Or.inl r4, Nat.le_trans (hup b r4) r5⟩
    · rw [hdn a hp]
      exact ⟨hp, hpc, hop, Or.inr rfl, hle⟩
  · rw [hdn a ha]
    by_cases e : b = c
    · subst e
      have h1 := hmax a ha
      by_cases hR : R b
      · rw [hk0 hR]
        have h2 := d7 a b ha hR hnb
        exact Nat.le_min.mpr ⟨h2, by omega⟩
      · rw [hk1 hR]; omega
    · rw [hk2 b e]
      rcases hb with hb | hb
      · exact d7 a b ha hb hnb
      · exact absurd hb e
theorem bjk_take {G : Nat → Prop} {nd : Nat} {R Dn : Nat → Prop} {sd : Nat → Nat → Prop} {aw : Nat → Nat} {p : Nat} (D : bjk nb ok h G nd R Dn sd aw) (hp : R p) (hmin : ∀ q, R q → ¬ Dn q → aw p ≤ aw q) :
    bjk nb ok h G (nd + 1) R (fun q => Dn q ∨ q = p) sd aw := by
  obtain ⟨d1, d4, d5, d6, d7⟩ := D
  refine ⟨d1, fun c hc => hc.elim (d4 c) (fun e => e ▸ hp), fun c hc => ?_, fun a c hac => ?_, fun a c ha hc hn => ?_⟩
  · obtain ⟨k, C, g, r0, r1, r2, r3, r4⟩ := d5 c hc
    exact ⟨k, C, g, r0, r1, r2, by omega, r4⟩
  · obtain ⟨r1, r2⟩ := d6 a c hac
    exact ⟨Or.inl r1, r2⟩
  · have hn1 : ¬ Dn c := fun z => hn (Or.inl z)
    rcases ha with ha | rfl
    · exact d7 a c ha hc hn1
    · exact hmin c hc hn1
/-! ### both find the same -/
theorem ways_none {s nd nd2 : Nat} {G R R2 : Nat → Prop} {key fi aw : Nat → Nat} (Dc : djkEnd nb ok h s nd R key fi) (Dm : bjkEnd nb ok h G nd2 R2 aw) (hR2 : R2 s) : ∃ g, G g ∧ R g := by
  obtain ⟨k, C, g, r0, r1, -⟩ := Dm.2.2.1 s hR2
  exact ⟨g, r0, (djkEnd_le Dc r1).1⟩
theorem ways_some {s nd nd2 : Nat} {G R R2 : Nat → Prop} {key fi aw : Nat → Nat} (hsym : ∀ a b, nb a b → nb b a) (Dc : djkEnd nb ok h s nd R key fi) (Dm : bjkEnd nb ok h G nd2 R2 aw) {g : Nat} (hg : G g) (hR : R g) : R2 s := by
  obtain ⟨k, C, r1, -⟩ := Dc.2.2.1 g hR
  exact (bjkEnd_le hsym Dm hg r1).1
theorem ways_same {s nd nd2 : Nat} {G R R2 : Nat → Prop} {key fi aw : Nat → Nat} (hsym : ∀ a b, nb a b → nb b a) (Dc : djkEnd nb ok h s nd R key fi) (hnd : nd ≤ 64) (Dm : bjkEnd nb ok h G nd2 R2 aw) (hnd2 : nd2 ≤ 64) {b : Nat} (hb : G b) (hRb : R b) (hmin : ∀ g, G g → R g → key b ≤ key g) :
    ∃ C k, k ≤ 64 ∧ C ≤ 9999 * 64 ∧ key b = 128 * C + k ∧ aw s = 1000000 * C + k ∧ ∃ g, G g ∧ wk nb ok h k s g C := by
  obtain ⟨k1, C1, r1, r2, r3, r4⟩ := Dc.2.2.1 b hRb
  obtain ⟨k2, C2, g2, q0, q1, q2, q3, q4⟩ := Dm.2.2.1 s (ways_some hsym Dc Dm hb hRb)
  obtain ⟨e1, e2⟩ := wk_same (P := fun k C => ∃ g, G g ∧ wk nb ok h k s g C) (K1 := 128) (K2 := 1000000) (by omega) (by omega) ⟨b, hb, r1⟩ (by omega)
    (fun k C ⟨g, hg, hw⟩ => by
      obtain ⟨z1, z2⟩ := djkEnd_le Dc hw
      have := hmin g hg z1
      omega) ⟨g2, q0, q1⟩ (by omega) (fun k C ⟨g, hg, hw⟩ => by
      obtain ⟨z1, z2⟩ := bjkEnd_le hsym Dm hg hw
      omega)
  subst e1
  subst e2
  exact ⟨C1, k1, by omega, by omega, r2, q2, b, hb, r1⟩
theorem ways_first {s nd nd2 : Nat} {G R R2 : Nat → Prop} {key fi aw : Nat → Nat} (hsym : ∀ a b, nb a b → nb b a) (Dc : djkEnd nb ok h s nd R key fi) (hnd : nd ≤ 64) (Dm : bjkEnd nb ok h G nd2 R2 aw) (hnd2 : nd2 ≤ 64) {b : Nat} (hb : G b) (hRb : R b) (hmin : ∀ g, G g → R g → key b ≤ key g)
    (hfi : ∀ g, G g → R g → key g = key b → fi b ≤ fi g) (hs : ¬ G s) : isLeast (fun x => nb s x ∧ ok x ∧ R2 x ∧ aw x + (1000000 * h x + 1) = aw s) (fi b) := by
  obtain ⟨C, k, hk, hC, ekey, eaw, -⟩ := ways_same hsym Dc hnd Dm hnd2 hb hRb hmin
  have hne : ∀ g, G g → g ≠ s := fun g hg e => hs (e ▸ hg)
  have hR2s := ways_some hsym Dc Dm hb hRb
  have key1 : ∀ x, (nb s x ∧ ok x ∧ R2 x ∧ aw x + (1000000 * h x + 1) = aw s) ↔ ∃ g, G g ∧ R g ∧ key g = key b ∧ fst_of nb ok h s key g x := by
    intro x
    constructor
    · rintro ⟨h1, h2, h3, h4⟩
      obtain ⟨k', C', g, q0, q1, q2, q3, q4⟩ := Dm.2.2.1 x h3
      have hw : wk nb ok h (k' + 1) s g (h x + C') := ⟨x, C', h1, h2, q1, rfl⟩
      obtain ⟨z1, z2⟩ := djkEnd_le Dc hw
      have hm := hmin g q0 z1
      have e : 1000000 * (h x + C') + (k' + 1) = 1000000 * C + k := by omega
      have e1 : h x + C' = C := by omega
      have e2 : k' + 1 = k := by omega
      exact ⟨g, q0, z1, by omega, k', C', h1, h2, q1, by omega⟩
    · rintro ⟨g, q0, z1, ek, k', C', h1, h2, q1, q2⟩
      have hw : wk nb ok h (k' + 1) s g (h x + C') := ⟨x, C', h1, h2, q1, rfl⟩
      have hle := (bjkEnd_le hsym Dm q0 hw).2
      have e : 128 * (h x + C') + (k' + 1) = 128 * C + k := by omega
      have e1 : h x + C' = C := by
        rcases Nat.lt_trichotomy (h x + C') C with z | z | z
        · omega
        · exact z
        · omega
      have e2 : k' + 1 = k := by omega
      obtain ⟨y1, y2⟩ := bjkEnd_le hsym Dm q0 q1
      obtain ⟨-, -, -, -, y3⟩ := Dm.2.2.2.1 x s ⟨y1, hsym _ _ h1, h2⟩
      exact ⟨h1, h2, y1, by omega⟩
  have lb := djkEnd_first Dc (key b + 1) b (by omega) hRb (hne b hb)
  refine ⟨(key1 _).mpr ⟨b, hb, hRb, rfl, lb.1⟩, fun x hx => ?_⟩
  obtain ⟨g, q0, z1, ek, hf⟩ := (key1 x).mp hx
  have lg := (djkEnd_first Dc (key g + 1) g (by omega) z1 (hne g q0)).2 x hf
  have := hfi g q0 z1 ek
  omega
end WK
