/-! ===== the way that both sides find: its cost, its steps, its first cell ===== -/
def wayIs (nb : Nat → Nat → Prop) (ok : Nat → Prop) (h : Nat → Nat) (G : Nat → Prop) (s : Nat) : Option (Nat × Nat × Nat) → Prop
  | none => ∀ k g C, G g → ¬ wk nb ok h k s g C
  | some (C, k, x) => (∃ g, G g ∧ wk nb ok h k s g C) ∧ k ≤ 64 ∧ C ≤ 9999 * 64 ∧ (∀ k' g' C', k' ≤ 64 → G g' → wk nb ok h k' s g' C' → C < C' ∨ (C = C' ∧ k ≤ k')) ∧ (G s → x = s) ∧ (¬ G s → isLeast (fun x => ∃ g k' C', G g ∧ nb s x ∧ ok x ∧ wk nb ok h k' x g C' ∧ h x + C' = C ∧ k' + 1 = k) x)
theorem wayIs_uniq {nb : Nat → Nat → Prop} {ok : Nat → Prop} {h : Nat → Nat} {G : Nat → Prop} {s : Nat} : ∀ {r1 r2 : Option (Nat × Nat × Nat)}, wayIs nb ok h G s r1 → wayIs nb ok h G s r2 → r1 = r2
  | none, none, _, _ => rfl
  | none, some (C, k, x), h1, h2 => by
    obtain ⟨⟨g, q0, q1⟩, -⟩ := h2
    exact absurd q1 (h1 k g C q0)
  | some (C, k, x), none, h1, h2 => by
    obtain ⟨⟨g, q0, q1⟩, -⟩ := h1
    exact absurd q1 (h2 k g C q0)
  | some (C, k, x), some (C', k', x'), h1, h2 => by
    obtain ⟨⟨g, q0, q1⟩, a1, a2, a3, a4, a5⟩ := h1
    obtain ⟨⟨g', q0', q1'⟩, b1, b2, b3, b4, b5⟩ := h2
    have c1 := a3 k' g' C' b1 q0' q1'
    have c2 := b3 k g C a1 q0 q1
    have e1 : C = C' := by omega
    have e2 : k = k' := by omega
    subst e1
    subst e2
    have e3 : x = x' := by
      by_cases hs : G s
      · rw [a4 hs, b4 hs]
      · exact isLeast_uniq (a5 hs) (b5 hs)
    rw [e3]
noncomputable def wayF (nb : Nat → Nat → Prop) (ok : Nat → Prop) (h : Nat → Nat) (G : Nat → Prop) (s : Nat) : Option (Nat × Nat × Nat) :=
  @dite _ (∃ r, wayIs nb ok h G s r) (Classical.propDecidable _) (fun z => Classical.choose z) (fun _ => none)
theorem wayF_eq {nb : Nat → Nat → Prop} {ok : Nat → Prop} {h : Nat → Nat} {G : Nat → Prop} {s : Nat} {r : Option (Nat × Nat × Nat)} (hr : wayIs nb ok h G s r) : wayF nb ok h G s = r := by
  unfold wayF
  rw [dif_pos ⟨r, hr⟩]
  exact wayIs_uniq (Classical.choose_spec (⟨r, hr⟩ : ∃ r, wayIs nb ok h G s r)) hr
/-- out of the reference's rows -/
theorem wayIs_M {nb : Nat → Nat → Prop} {ok : Nat → Prop} {h : Nat → Nat} {G : Nat → Prop} {s nd : Nat} {R : Nat → Prop} {aw : Nat → Nat} (hsym : ∀ a b, nb a b → nb b a) (D : bjkEnd nb ok h G nd R aw) (hnd : nd ≤ 64) (hR : R s) {x : Nat} (hx1 : G s → x = s) (hx2 : ¬ G s → isLeast (fun x => nb s x ∧ ok x ∧ R x ∧ aw x + (1000000 * h x + 1) = aw s) x) :
    ∃ C k, aw s = 1000000 * C + k ∧ k ≤ 64 ∧ C ≤ 9999 * 64 ∧ wayIs nb ok h G s (some (C, k, x)) := by
  obtain ⟨k, C, g, q0, q1, q2, q3, q4⟩ := D.2.2.1 s hR
  refine ⟨C, k, q2, by omega, by omega, ⟨g, q0, q1⟩, by omega, by omega, fun k' g' C' hk' hg' hw' => ?_, hx1, fun hs => isLeast_congr (fun y => ?_) (hx2 hs)⟩
  · have := (bjkEnd_le hsym D hg' hw').2
    omega
  · constructor
    · rintro ⟨h1, h2, h3, h4⟩
      obtain ⟨k', C', g', r0, r1, r2, r3, r4⟩ := D.2.2.1 y h3
      exact ⟨g', k', C', r0, h1, h2, r1, by omega, by omega⟩
    · rintro ⟨g', k', C', r0, h1, h2, r1, r2, r3⟩
      obtain ⟨y1, y2⟩ := bjkEnd_le hsym D r0 r1
      obtain ⟨-, -, -, -, y3⟩ := D.2.2.2.1 y s ⟨y1, hsym _ _ h1, h2⟩
      exact ⟨h1, h2, y1, by omega⟩
theorem wayIs_M0 {nb : Nat → Nat → Prop} {ok : Nat → Prop} {h : Nat → Nat} {G : Nat → Prop} {s nd : Nat} {R : Nat → Prop} {aw : Nat → Nat} (hsym : ∀ a b, nb a b → nb b a) (D : bjkEnd nb ok h G nd R aw) (hR : ¬ R s) : wayIs nb ok h G s none :=
  fun _ _ _ hg hw => hR (bjkEnd_le hsym D hg hw).1
theorem djk_walk_le {nb : Nat → Nat → Prop} {ok : Nat → Prop} {h : Nat → Nat} {s nd : Nat} {R : Nat → Prop} {key fi : Nat → Nat} (D : djkEnd nb ok h s nd R key fi) : ∀ {k a c C : Nat}, R a → wk nb ok h k a c C → R c ∧ key c ≤ key a + 128 * C + k
  | 0, a, c, C, ha, ⟨e1, e2⟩ => ⟨e1 ▸ ha, by subst e1; omega⟩
  | k + 1, a, c, C, ha, ⟨x, E, q1, q2, q3, q4⟩ => by
    obtain ⟨-, -, -, z1, z2⟩ := D.2.2.2.1 a x ⟨ha, q1, q2⟩
    obtain ⟨y1, y2⟩ := djk_walk_le D z1 q3
    exact ⟨y1, by omega⟩
theorem cntR_mono {P Q : Nat → Prop} (hPQ : ∀ c, P c → Q c) : ∀ n, cntR P n ≤ cntR Q n
  | 0 => Nat.le_refl _
  | n + 1 => by
    have ih := cntR_mono hPQ n
    unfold cntR
    by_cases hp : P n
    · simp [hp, hPQ n hp, ih]
    · by_cases hq : Q n
      · simp [hp, hq]; omega
      · simp [hp, hq, ih]
theorem cntR_strict {P Q : Nat → Prop} (hPQ : ∀ c, P c → Q c) {w : Nat} (hw : Q w) (hnw : ¬ P w) : ∀ {n : Nat}, w < n → cntR P n + 1 ≤ cntR Q n
  | 0, h0 => by omega
  | n + 1, h1 => by
    unfold cntR
    by_cases e : w = n
    · subst e
      have ih := cntR_mono hPQ w
      simp [hw, hnw]; omega
    · have ih := cntR_strict hPQ hw hnw (n := n) (by omega)
      by_cases hp : P n
      · simp [hp, hPQ n hp]; omega
      · by_cases hq : Q n
        · simp [hp, hq]; omega
        · simp [hp, hq, ih]
theorem djk_tight {nb : Nat → Nat → Prop} {ok : Nat → Prop} {h : Nat → Nat} {s nd : Nat} {R : Nat → Prop} {key fi : Nat → Nat} (D : djkEnd nb ok h s nd R key fi) (hR64 : ∀ c, R c → c < 64) : ∀ {k a c C : Nat}, R a → wk nb ok h k a c C → key c = key a + 128 * C + k → k ≤ cntR (fun x => R x ∧ key a < key x) 64
  | 0, a, c, C, _, _, _ => by omega
  | k + 1, a, c, C, ha, ⟨x, E, q1, q2, q3, q4⟩, ht => by
    obtain ⟨-, -, -, z1, z2⟩ := D.2.2.2.1 a x ⟨ha, q1, q2⟩
    obtain ⟨y1, y2⟩ := djk_walk_le D z1 q3
    have ex : key x = key a + (128 * h x + 1) := by omega
    have ih := djk_tight D hR64 z1 q3 (by omega)
    have := cntR_strict (P := fun y => R y ∧ key x < key y) (Q := fun y => R y ∧ key a < key y) (fun y hy => ⟨hy.1, by omega⟩) (w := x) ⟨z1, by omega⟩ (fun z => by omega) (n := 64) (hR64 x z1)
    omega
/-- out of the class's rows: b the goal that it goes to -/
theorem wayIs_C {nb : Nat → Nat → Prop} {ok : Nat → Prop} {h : Nat → Nat} {G : Nat → Prop} {s nd : Nat} {R : Nat → Prop} {key fi : Nat → Nat} (D : djkEnd nb ok h s nd R key fi) (hnd : nd ≤ 64) (hR64 : ∀ c, R c → c < 64) {b : Nat} (hb : G b) (hRb : R b) (hmin : ∀ g, G g → R g → key b ≤ key g) (hfi : ∀ g, G g → R g → key g = key b → fi b ≤ fi g) (hGs : G s → b = s) :
    wayIs nb ok h G s (some (key b / 128, key b % 128, fi b)) ∧ key b / 128 ≤ 9999 * 64 := by
  obtain ⟨k, C, r1, r2, r3, r4⟩ := D.2.2.1 b hRb
  have e1 : key b / 128 = C := by omega
  have e2 : key b % 128 = k := by omega
  rw [e1, e2]
  have hlex : ∀ k' g' C', k' ≤ 64 → G g' → wk nb ok h k' s g' C' → C < C' ∨ (C = C' ∧ k ≤ k') := by
    intro k' g' C' hk' hg' hw'
    obtain ⟨z1, z2⟩ := djkEnd_le D hw'
    have := hmin g' hg' z1
    omega
  refine ⟨⟨⟨b, hb, r1⟩, by omega, by omega, hlex, fun hs => by rw [hGs hs]; exact D.1.2.2, fun hs => ?_⟩, by omega⟩
  have hne : ∀ g, G g → g ≠ s := fun g hg e => hs (e ▸ hg)
  have lb := djkEnd_first D (key b + 1) b (by omega) hRb (hne b hb)
  have k1 : ∀ g x, G g → R g → key g = key b → fst_of nb ok h s key g x → ∃ g k' C', G g ∧ nb s x ∧ ok x ∧ wk nb ok h k' x g C' ∧ h x + C' = C ∧ k' + 1 = k := by
    rintro g x hg hRg ek ⟨k', C', h1, h2, h3, h4⟩
    have hw : wk nb ok h (k' + 1) s g (h x + C') := ⟨x, C', h1, h2, h3, rfl⟩
    have ht := djk_tight D hR64 D.1.1 hw (by rw [D.1.2.1]; omega)
    have hl := cntR_le (fun x => R x ∧ key s < key x) 64
    have := hlex (k' + 1) g (h x + C') (by omega) hg hw
    exact ⟨g, k', C', hg, h1, h2, h3, by omega, by omega⟩
  refine ⟨k1 b (fi b) hb hRb rfl lb.1, fun x hx => ?_⟩
  obtain ⟨g, k', C', q0, h1, h2, h3, h4, h5⟩ := hx
  have hw : wk nb ok h (k' + 1) s g (h x + C') := ⟨x, C', h1, h2, h3, rfl⟩
  obtain ⟨z1, z2⟩ := djkEnd_le D hw
  have hm := hmin g q0 z1
  have ek : key g = key b := by omega
  have lg := (djkEnd_first D (key g + 1) g (by omega) z1 (hne g q0)).2 x ⟨k', C', h1, h2, h3, by omega⟩
  have := hfi g q0 z1 ek
  omega
theorem wayIs_C0 {nb : Nat → Nat → Prop} {ok : Nat → Prop} {h : Nat → Nat} {G : Nat → Prop} {s nd : Nat} {R : Nat → Prop} {key fi : Nat → Nat} (D : djkEnd nb ok h s nd R key fi) (hno : ∀ g, G g → ¬ R g) : wayIs nb ok h G s none :=
  fun _ g _ hg hw => hno g hg (djkEnd_le D hw).1
