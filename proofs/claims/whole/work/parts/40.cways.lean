/-! ===== the class: what it asks of a search ===== -/
def srRow (M : am_I) (q : Nat) (R : Nat → Prop) (key fi : Nat → Nat) : Prop := ∀ c, c < 64 → (R c → M (0, 0, 3) (64 * q + c) = nI (key c) ∧ M (0, 0, 4) (64 * q + c) = nI (fi c) ∧ key c < 100000000 ∧ fi c < 64) ∧ (¬ R c → M (0, 0, 3) (64 * q + c) = nI NOWAY)
theorem srRow_of {M : am_I} {ok : Nat → Prop} {h : Nat → Nat} {s q : Nat} {R : Nat → Prop} {key fi : Nat → Nat} (hE : srEnd ok h s q R key fi (M (0, 0, 3)) (M (0, 0, 4))) : srRow M q R key fi := fun c hc => ⟨fun hR => ⟨((hE.2.2 c hc).1 hR).1, ((hE.2.2 c hc).1 hR).2, (hE.2.1 c hR).2.2, (hE.2.1 c hR).2.1⟩, (hE.2.2 c hc).2⟩
section PV1
variable {M : am_I} {N : am_N} {q : Nat} {post : Int32 → am_I → am_N → Prop} {R : Nat → Prop} {key fi : Nat → Nat}
theorem row64 (q c : Nat) : nI q * 64 + nI c = nI (64 * q + c) := by
  rw [show nI q * 64 = nI (q * 64) from pk_mul q 64, nI_add, Nat.mul_comm]
theorem sp_X5_hasWay {c : Nat} (hE : srRow M q R key fi) (hq : q < 8) (hc : c < 64) (h1 : R c → post 1 M N) (h0 : ¬ R c → post 0 M N) : w_X5_hasWay (nI q) (nI c) M N post := by
  unfold w_X5_hasWay
  rw [row64, nI_clamp (show 64 * q + c < 2 ^ 31 by omega)]
  refine ⟨fun z => absurd z (nI_pos (by omega)), fun _ => ⟨fun z => absurd z (nI_ge (b := 8) hq (by omega)), fun _ => ⟨fun z => absurd z (nI_pos (by omega)), fun _ => ⟨fun _ => ⟨vp_in_nI (by omega) (by omega), fun z => h0 (fun hR => ?_), fun z => h1 (Classical.byContradiction fun hR => z ?_)⟩, fun z => absurd (nI_lt (b := 64) hc (by omega)) z⟩⟩⟩⟩
  · obtain ⟨e, -, s1, -⟩ := (hE c hc).1 hR
    rw [e] at z
    have := (nI_leI (a := 2000000000) (by omega) (by omega)).mp z
    omega
  · rw [(hE c hc).2 hR]
    exact Int32.le_refl _
theorem sp_X5_hasWayN (h0 : post 0 M N) (hq : q < 8) : w_X5_hasWay (nI q) (-1) M N post := by
  unfold w_X5_hasWay
  exact ⟨fun z => absurd z (nI_pos (by omega)), fun _ => ⟨fun z => absurd z (nI_ge (b := 8) hq (by omega)), fun _ => ⟨fun _ => h0, fun z => absurd (by decide) z⟩⟩⟩
theorem sp_X5_costTo {c : Nat} (hE : srRow M q R key fi) (hq : q < 8) (hc : c < 64) (h1 : R c → post (nI (key c / 128)) M N) (h0 : ¬ R c → post (-1) M N) : w_X5_costTo (nI q) (nI c) M N post := by
  unfold w_X5_costTo
  rw [row64, nI_clamp (show 64 * q + c < 2 ^ 31 by omega)]
  refine sp_X5_hasWay hE hq hc (fun hR => ⟨fun z => absurd z (by decide), fun _ => ⟨vp_in_nI (by omega) (by omega), ?_⟩⟩) (fun hR => ⟨fun _ => h0 hR, fun z => absurd rfl z⟩)
  obtain ⟨e, -, s1, -⟩ := (hE c hc).1 hR
  rw [e, show nI (key c) / 128 = nI (key c / 128) from pk_div (d := 128) (by omega) (by omega) (by omega)]
  exact h1 hR
theorem sp_X5_stepsTo {c : Nat} (hE : srRow M q R key fi) (hq : q < 8) (hc : c < 64) (h1 : R c → post (nI (key c % 128)) M N) (h0 : ¬ R c → post (-1) M N) : w_X5_stepsTo (nI q) (nI c) M N post := by
  unfold w_X5_stepsTo
  rw [row64, nI_clamp (show 64 * q + c < 2 ^ 31 by omega)]
  refine sp_X5_hasWay hE hq hc (fun hR => ⟨fun z => absurd z (by decide), fun _ => ⟨vp_in_nI (by omega) (by omega), ?_⟩⟩) (fun hR => ⟨fun _ => h0 hR, fun z => absurd rfl z⟩)
  obtain ⟨e, -, s1, -⟩ := (hE c hc).1 hR
  rw [e, show am_rem (nI (key c)) 128 = nI (key c % 128) from pk_rem (d := 128) (by omega) (by omega) (by omega)]
  exact h1 hR
theorem sp_X5_firstTo {c : Nat} (hE : srRow M q R key fi) (hq : q < 8) (hc : c < 64) (h1 : R c → post (nI (fi c)) M N) (h0 : ¬ R c → post (-1) M N) : w_X5_firstTo (nI q) (nI c) M N post := by
  unfold w_X5_firstTo
  rw [row64, nI_clamp (show 64 * q + c < 2 ^ 31 by omega)]
  refine sp_X5_hasWay hE hq hc (fun hR => ⟨fun z => absurd z (by decide), fun _ => ⟨vp_in_nI (by omega) (by omega), ?_⟩⟩) (fun hR => ⟨fun _ => h0 hR, fun z => absurd rfl z⟩)
  obtain ⟨-, e, -, -⟩ := (hE c hc).1 hR
  rw [e]
  exact h1 hR
theorem sp_X5_firstToN (h0 : post (-1) M N) (hq : q < 8) : w_X5_firstTo (nI q) (-1) M N post := by
  unfold w_X5_firstTo
  exact sp_X5_hasWayN ⟨fun _ => h0, fun z => absurd rfl z⟩ hq
theorem sp_X5_costToN (h0 : post (-1) M N) (hq : q < 8) : w_X5_costTo (nI q) (-1) M N post := by
  unfold w_X5_costTo
  exact sp_X5_hasWayN ⟨fun _ => h0, fun z => absurd rfl z⟩ hq
theorem sp_X5_isNearer {x y : Nat} (hE : srRow M q R key fi) (hq : q < 8) (hx : x < 64) (hy : y < 64) (hRx : R x) (hRy : R y) (h1 : (key x < key y ∨ (key x = key y ∧ fi x < fi y)) → post 1 M N) (h0 : ¬ (key x < key y ∨ (key x = key y ∧ fi x < fi y)) → post 0 M N) : w_X5_isNearer (nI q * 64) (nI x) (nI y) M N post := by
  obtain ⟨e1, e2, s1, s2⟩ := (hE x hx).1 hRx
  obtain ⟨f1, f2, t1, t2⟩ := (hE y hy).1 hRy
  unfold w_X5_isNearer
  rw [row64, row64, nI_clamp (show 64 * q + x < 2 ^ 31 by omega), nI_clamp (show 64 * q + y < 2 ^ 31 by omega), e1, e2, f1, f2]
  have v1 : vp_in (nI (64 * q + x)) 512 := vp_in_nI (by omega) (by omega)
  have v2 : vp_in (nI (64 * q + y)) 512 := vp_in_nI (by omega) (by omega)
  refine ⟨v1, v2, fun e => ⟨v1, v2, fun z => h0 ?_, fun z => h1 ?_⟩, fun e => ⟨v1, v2, fun z => h0 ?_, fun z => h1 ?_⟩⟩
  · have a := (nI_eq (by omega) (by omega)).mp e
    have b := (nI_leI (by omega) (by omega)).mp z
    omega
  · have a := (nI_eq (by omega) (by omega)).mp e
    have b : ¬ fi y ≤ fi x := fun y' => z (nI_le y' (by omega))
    omega
  · have a : key x ≠ key y := fun y' => e (by rw [y'])
    have b := (nI_leI (by omega) (by omega)).mp z
    omega
  · have b : ¬ key y ≤ key x := fun y' => z (nI_le y' (by omega))
    omega
/-- of the cells beside g that have a way: b is the nearest -/
def nearB (R : Nat → Prop) (key fi : Nat → Nat) (g n x : Nat) : Prop := (∃ k, k < n ∧ besN g k = some x) ∧ R x ∧ ∀ k y, k < n → besN g k = some y → R y → key x < key y ∨ (key x = key y ∧ fi x ≤ fi y)
theorem sp_X5_nearestBeside {g : Nat} (hE : srRow M q R key fi) (hR64 : ∀ c, R c → c < 64) (hq : q < 8) (hg : g < 64) (h1 : ∀ x, x < 64 → nearB R key fi g 4 x → post (nI x) M N) (h0 : (∀ k y, k < 4 → besN g k = some y → ¬ R y) → post (-1) M N) : w_X5_nearestBeside (nI q) (nI g) M N post := by
  unfold w_X5_nearestBeside
  have loop : ∀ (j k : Nat), k + j = 4 → ∀ best : Option Nat, (best = none → ∀ i y, i < k → besN g i = some y → ¬ R y) → (∀ x, best = some x → x < 64 ∧ nearB R key fi g k x) → ∃ n, w_X5_nearestBeside_p5 post n (nI q) (nI g) (atV best) (nI k) M N := by
    intro j
    induction j with
    | zero =>
      intro k hk best hn hs
      have e : k = 4 := by omega
      subst e
      refine ⟨1, ?_⟩
      rw [w_X5_nearestBeside_p5_s]
      unfold w_X5_nearestBeside_p5_b
      refine ⟨fun _ => ?_, fun z => absurd (Int32.le_refl _) z⟩
      cases best with
      | none => exact h0 (hn rfl)
      | some x => exact h1 x (hs x rfl).1 (hs x rfl).2
    | succ j ih =>
      intro k hk best hn hs
      have hk4 : k < 4 := by omega
      have close : (∃ n, w_X5_nearestBeside_p5_b post (w_X5_nearestBeside_p5 post n) (nI q) (nI g) (atV best) (nI k) M N) → ∃ n, w_X5_nearestBeside_p5 post n (nI q) (nI g) (atV best) (nI k) M N := fun ⟨n, z⟩ => ⟨n + 1, z⟩
      apply close
      unfold w_X5_nearestBeside_p5_b
      simp only [eq_X11_besN hg hk4, nI_1]
      have g4 : ¬ (4 : Int32) ≤ nI k := nI_ge (b := 4) hk4 (by omega)
      have keep : (∀ y, besN g k = some y → ¬ R y) → ∃ n, w_X5_nearestBeside_p5 post n (nI q) (nI g) (atV best) (nI (k + 1)) M N := fun hno => ih (k + 1) (by omega) best (fun e i y hi hb => by
          by_cases z : i = k
          · subst z; exact hno y hb
          · exact hn e i y (by omega) hb) (fun x e => by
          obtain ⟨r1, ⟨i, hi, hbi⟩, r3, r4⟩ := hs x e
          exact ⟨r1, ⟨i, by omega, hbi⟩, r3, fun i' y hi' hb hRy => by
            by_cases z : i' = k
            · subst z; exact absurd hRy (hno y hb)
            · exact r4 i' y (by omega) hb hRy⟩)
      cases hb : besN g k with
      | none =>
        obtain ⟨n, hn'⟩ := keep (fun y hy => by rw [hb] at hy; cases hy)
        rw [besV_none hb]
        exact ⟨n, fun z => absurd z g4, fun _ => sp_X5_hasWayN ⟨fun _ => hn', fun z => absurd rfl z⟩ hq⟩
      | some c =>
        have hc64 : c < 64 := besN_lt g hg k hk4 c hb
        rw [besV_some hb]
        by_cases hRc : R c
        · have take : (∀ i y, i < k → besN g i = some y → R y → key c < key y ∨ (key c = key y ∧ fi c ≤ fi y)) → ∃ n, w_X5_nearestBeside_p5 post n (nI q) (nI g) (nI c) (nI (k + 1)) M N := fun hb2 => ih (k + 1) (by omega) (some c) (fun e => by cases e) (fun x e => by
            cases e
            exact ⟨hc64, ⟨k, by omega, hb⟩, hRc, fun i y hi hby hRy => by
              by_cases z : i = k
              · subst z; rw [hb] at hby; cases hby; exact Or.inr ⟨rfl, Nat.le_refl _⟩
              · exact hb2 i y (by omega) hby hRy⟩)
          cases best with
          | none =>
            obtain ⟨n, hn'⟩ := take (fun i y hi hby hRy => absurd hRy (hn rfl i y hi hby))
            exact ⟨n, fun z => absurd z g4, fun _ => sp_X5_hasWay hE hq hc64 (fun _ => ⟨fun z => absurd z (by decide), fun _ => ⟨fun _ => hn', fun z => absurd (by decide) z⟩⟩) (fun z => absurd hRc z)⟩
          | some x =>
            obtain ⟨r1, ⟨i, hi, hbi⟩, r3, r4⟩ := hs x rfl
            by_cases hnear : key c < key x ∨ (key c = key x ∧ fi c < fi x)
            · obtain ⟨n, hn'⟩ := take (fun i y hi hby hRy => by
                have := r4 i y hi hby hRy
                omega)
              exact ⟨n, fun z => absurd z g4, fun _ => sp_X5_hasWay hE hq hc64 (fun _ => ⟨fun z => absurd z (by decide), fun _ => ⟨fun z => absurd z (nI_pos (show x < 2 ^ 31 by omega)), fun _ => sp_X5_isNearer hE hq hc64 r1 hRc r3 (fun _ => ⟨fun z => absurd z (by decide), fun _ => hn'⟩) (fun z => absurd hnear z)⟩⟩) (fun z => absurd hRc z)⟩
            · obtain ⟨n, hn'⟩ := ih (k + 1) (by omega) (some x) (fun e => by cases e) (fun x' e => by
                cases e
                exact ⟨r1, ⟨i, by omega, hbi⟩, r3, fun i' y hi' hby hRy => by
                  by_cases z : i' = k
                  · subst z; rw [hb] at hby; cases hby; omega
                  · exact r4 i' y (by omega) hby hRy⟩)
              exact ⟨n, fun z => absurd z g4, fun _ => sp_X5_hasWay hE hq hc64 (fun _ => ⟨fun z => absurd z (by decide), fun _ => ⟨fun z => absurd z (nI_pos (show x < 2 ^ 31 by omega)), fun _ => sp_X5_isNearer hE hq hc64 r1 hRc r3 (fun z => absurd z hnear) (fun _ => ⟨fun _ => hn', fun z => absurd rfl z⟩)⟩⟩) (fun z => absurd hRc z)⟩
        · obtain ⟨n, hn'⟩ := keep (fun y hy hRy => by rw [hb] at hy; cases hy; exact hRc hRy)
          exact ⟨n, fun z => absurd z g4, fun _ => sp_X5_hasWay hE hq hc64 (fun z => absurd z hRc) (fun _ => ⟨fun _ => hn', fun z => absurd rfl z⟩)⟩
  exact loop 4 0 (by omega) none (fun _ i y hi => by omega) (fun x e => by cases e)
end PV1
