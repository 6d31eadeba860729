/-! ===== the class: Paths.search ===== -/
theorem am_s_comm {α : Type} (M : am_C → Nat → α) {a b : am_C} (h : a ≠ b) (f g : Nat → α) : am_s (am_s M a f) b g = am_s (am_s M b g) a f := by
  funext c
  unfold am_s
  by_cases h1 : c = a
  · subst h1; simp [h]
  · simp [h1]
/-- the four rows that a search writes -/
def pS (M : am_I) (ky fy eg po : Nat → Int32) : am_I := am_s (am_s (am_s (am_s M (0, 0, 3) ky) (0, 0, 4) fy) (0, 0, 6) eg) (0, 0, 2) po
section PP
variable {M : am_I} {ky fy eg po : Nat → Int32}
theorem pS_k : pS M ky fy eg po (0, 0, 3) = ky := by
  unfold pS
  rw [am_s_other _ _ (by decide), am_s_other _ _ (by decide), am_s_other _ _ (by decide), am_s_same]
theorem pS_f : pS M ky fy eg po (0, 0, 4) = fy := by
  unfold pS
  rw [am_s_other _ _ (by decide), am_s_other _ _ (by decide), am_s_same]
theorem pS_e : pS M ky fy eg po (0, 0, 6) = eg := by
  unfold pS
  rw [am_s_other _ _ (by decide), am_s_same]
theorem pS_p : pS M ky fy eg po (0, 0, 2) = po := by
  unfold pS
  rw [am_s_same]
theorem pS_o {c : am_C} (h : c ≠ (0, 0, 3) ∧ c ≠ (0, 0, 4) ∧ c ≠ (0, 0, 6) ∧ c ≠ (0, 0, 2)) : pS M ky fy eg po c = M c := by
  unfold pS
  rw [am_s_other _ _ h.2.2.2, am_s_other _ _ h.2.2.1, am_s_other _ _ h.2.1, am_s_other _ _ h.1]
theorem pS_uk {k : Nat} {x : Int32} : am_u (pS M ky fy eg po) (0, 0, 3) k x = pS M (upd ky k x) fy eg po := by
  unfold am_u
  rw [pS_k]
  unfold pS
  rw [am_s_comm _ (show (0, 0, 2) ≠ (0, 0, 3) by decide), am_s_comm _ (show (0, 0, 6) ≠ (0, 0, 3) by decide), am_s_comm _ (show (0, 0, 4) ≠ (0, 0, 3) by decide), am_s_s]
theorem pS_uf {k : Nat} {x : Int32} : am_u (pS M ky fy eg po) (0, 0, 4) k x = pS M ky (upd fy k x) eg po := by
  unfold am_u
  rw [pS_f]
  unfold pS
  rw [am_s_comm _ (show (0, 0, 2) ≠ (0, 0, 4) by decide), am_s_comm _ (show (0, 0, 6) ≠ (0, 0, 4) by decide), am_s_s]
theorem pS_ue {k : Nat} {x : Int32} : am_u (pS M ky fy eg po) (0, 0, 6) k x = pS M ky fy (upd eg k x) po := by
  unfold am_u
  rw [pS_e]
  unfold pS
  rw [am_s_comm _ (show (0, 0, 2) ≠ (0, 0, 6) by decide), am_s_s]
theorem pS_up {k : Nat} {x : Int32} : am_u (pS M ky fy eg po) (0, 0, 2) k x = pS M ky fy eg (upd po k x) := by
  unfold am_u
  rw [pS_p]
  unfold pS
  rw [am_s_s]
theorem pS_id : pS M (M (0, 0, 3)) (M (0, 0, 4)) (M (0, 0, 6)) (M (0, 0, 2)) = M := by
  unfold pS
  rw [am_s_id, am_s_id, am_s_id, am_s_id]
end PP
/-- how many of the first n cells are in R -/
noncomputable def cntR (R : Nat → Prop) : Nat → Nat
  | 0 => 0
  | n + 1 => cntR R n + @ite Nat (R n) (Classical.propDecidable _) 1 0
theorem cntR_le (R : Nat → Prop) : ∀ n, cntR R n ≤ n
  | 0 => Nat.le_refl _
  | n + 1 => by
    have := cntR_le R n
    unfold cntR
    split <;> omega
theorem cntR_out {R : Nat → Prop} {c : Nat} : ∀ {n : Nat}, n ≤ c → cntR (fun q => R q ∨ q = c) n = cntR R n
  | 0, _ => rfl
  | n + 1, h => by
    unfold cntR
    rw [cntR_out (by omega)]
    have e2 : ¬ n = c := by omega
    by_cases hR : R n <;> simp [hR, e2]
theorem cntR_add {R : Nat → Prop} {c : Nat} (h0 : ¬ R c) : ∀ {n : Nat}, c < n → cntR (fun q => R q ∨ q = c) n = cntR R n + 1
  | 0, h => by omega
  | n + 1, h => by
    by_cases e : c = n
    · subst e
      unfold cntR
      rw [cntR_out (Nat.le_refl _)]
      simp [h0]
    · unfold cntR
      rw [cntR_add h0 (show c < n by omega)]
      have e2 : ¬ n = c := fun y => e y.symm
      by_cases hR : R n <;> simp [hR, e2] <;> omega
theorem cntR_one {s : Nat} : ∀ {n : Nat}, s < n → cntR (fun q => q = s) n = 1
  | n, h => by
    have h1 := cntR_add (R := fun _ => False) (c := s) id h
    have h2 : ∀ n, cntR (fun _ => False) n = 0 := by
      intro n
      induction n with
      | zero => rfl
      | succ n ih => unfold cntR; simp [ih]
    rw [h2] at h1
    have e : (fun q => False ∨ q = s) = (fun q : Nat => q = s) := by
      funext q
      simp
    rw [e] at h1
    exact h1
def NOWAY : Nat := 2000000000
/-- the rows hold what the search has found so far; el: the cells of the row 'edge' -/
def csS (ok : Nat → Prop) (h : Nat → Nat) (s q nd : Nat) (R Dn : Nat → Prop) (sd : Nat → Nat → Prop) (key fi : Nat → Nat) (ne : Nat) (el : Nat → Nat) (ky fy eg po : Nat → Int32) : Prop :=
  djk nbr ok h s nd R Dn sd key fi ∧ (∀ c, R c → c < 64 ∧ fi c < 64) ∧ (∀ c, c < 64 → (R c → ky (64 * q + c) = nI (key c) ∧ fy (64 * q + c) = nI (fi c)) ∧ (¬ R c → ky (64 * q + c) = nI NOWAY)) ∧
  po 4 = nI ne ∧ (∀ i, i < ne → eg i = nI (el i) ∧ R (el i) ∧ ¬ Dn (el i)) ∧ (∀ c, R c → ¬ Dn c → ∃ i, i < ne ∧ el i = c) ∧ (∀ i, i < ne → ∀ j, j < ne → el i = el j → i = j) ∧ ne + nd = cntR R 64
theorem djk_small {nb : Nat → Nat → Prop} {ok : Nat → Prop} {h : Nat → Nat} {s nd : Nat} {R Dn : Nat → Prop} {sd : Nat → Nat → Prop} {key fi : Nat → Nat} (D : djk nb ok h s nd R Dn sd key fi) (hnd : nd ≤ 64) {c : Nat} (hc : R c) : key c < 100000000 := by
  obtain ⟨k, C, -, e, h1, h2⟩ := D.2.2.1 c hc
  omega
section PQ
variable {M : am_I} {N : am_N} {ok : Nat → Prop} {h : Nat → Nat} {s q : Nat}
/-- the tolls -/
def tolls (M : am_I) (ok : Nat → Prop) (h : Nat → Nat) : Prop := ∀ c, c < 64 → (ok c → M (0, 0, 5) c = nI (128 * h c + 1) ∧ h c ≤ 9999) ∧ (¬ ok c → M (0, 0, 5) c = 0)
theorem nI_ne {a b : Nat} (ha : a < 2 ^ 31) (hb : b < 2 ^ 31) (h : a ≠ b) : ¬ nI a = nI b := fun e => h ((nI_eq ha hb).mp e)
theorem sp_takeNearest {post : Int32 → am_I → am_N → Prop} {nd : Nat} {R Dn : Nat → Prop} {sd : Nat → Nat → Prop} {key fi : Nat → Nat} {ne : Nat} {el : Nat → Nat} {ky fy eg po : Nat → Int32} (hq : q < 8) (hnd : nd ≤ 64) (S : csS ok h s q nd R Dn sd key fi ne el ky fy eg po) (hne : 0 < ne)
    (kk : ∀ bi, bi < ne → (∀ c, R c → ¬ Dn c → key (el bi) ≤ key c) → post (nI (el bi)) (pS M ky fy (upd eg bi (eg (ne - 1))) (upd po 4 (nI (ne - 1)))) N) : w_X5_takeNearest (nI (64 * q)) (pS M ky fy eg po) N post := by
  obtain ⟨D, hR, hK, hpo, hel, hes, hin, hcn⟩ := S
  have hne64 : ne ≤ 64 := by have := cntR_le R 64; omega
  have hkey : ∀ i, i < ne → eg i = nI (el i) ∧ el i < 64 ∧ ky (64 * q + el i) = nI (key (el i)) ∧ key (el i) < 100000000 := fun i hi => by
    obtain ⟨r1, r2, r3⟩ := hel i hi
    exact ⟨r1, (hR _ r2).1, ((hK _ (hR _ r2).1).1 r2).1, djk_small D hnd r2⟩
  unfold w_X5_takeNearest
  have loop : ∀ (j i : Nat), i + j = ne → 1 ≤ i → ∀ bi, bi < i → (∀ x, x < i → key (el bi) ≤ key (el x)) → ∃ n, w_X5_takeNearest_p4 post n (nI (64 * q)) (nI bi) (nI i) (pS M ky fy eg po) N := by
    intro j
    induction j with
    | zero =>
      intro i hi h1 bi hbi hmin
      have e : i = ne := by omega
      subst e
      refine ⟨1, ?_⟩
      rw [w_X5_takeNearest_p4_s]
      unfold w_X5_takeNearest_p4_b
      simp only [pS_up, pS_e, pS_p, pS_ue, hpo, nI_clamp (show bi < 2 ^ 31 by omega), pk_us]
      have e1 : nI i - 1 = nI (i - 1) := by
        have := nI_pred (i - 1)
        rw [show i - 1 + 1 = i by omega] at this
        exact this
      rw [e1, nI_clamp (show i - 1 < 2 ^ 31 by omega)]
      refine ⟨fun _ => ⟨vp_in_nI (by omega) (by omega), fun v hv => ⟨vp_in_nI (by omega) (by omega), vp_in_nI (by omega) (by omega), ?_⟩⟩, fun z => absurd (Int32.le_refl _) z⟩
      rw [hv, (hel bi hbi).1]
      exact kk bi hbi (fun c hc hn => by
        obtain ⟨x, hx, ex⟩ := hes c hc hn
        rw [← ex]
        exact hmin x hx)
    | succ j ih =>
      intro i hi h1 bi hbi hmin
      have hin' : i < ne := by omega
      have close : (∃ n, w_X5_takeNearest_p4_b post (w_X5_takeNearest_p4 post n) (nI (64 * q)) (nI bi) (nI i) (pS M ky fy eg po) N) → ∃ n, w_X5_takeNearest_p4 post n (nI (64 * q)) (nI bi) (nI i) (pS M ky fy eg po) N := fun ⟨n, h⟩ => ⟨n + 1, h⟩
      apply close
      unfold w_X5_takeNearest_p4_b
      obtain ⟨ei, li, ki, si⟩ := hkey i hin'
      obtain ⟨eb, lb, kb, sb⟩ := hkey bi (by omega)
      simp only [pS_e, pS_p, pS_k, hpo, nI_clamp (show bi < 2 ^ 31 by omega), nI_clamp (show i < 2 ^ 31 by omega), ei, eb, nI_add, nI_1, nI_clamp (show 64 * q + el i < 2 ^ 31 by omega), nI_clamp (show 64 * q + el bi < 2 ^ 31 by omega), ki, kb]
      by_cases hle : key (el bi) ≤ key (el i)
      · obtain ⟨n, hn⟩ := ih (i + 1) (by omega) (by omega) bi (by omega) (fun x hx => by
          by_cases e : x = i
          · subst e; exact hle
          · exact hmin x (by omega))
        exact ⟨n, fun z => absurd z (nI_ge hin' (by omega)), fun _ => ⟨vp_in_nI (by omega) (by omega), vp_in_nI (by omega) (by omega), vp_in_nI (by omega) (by omega), vp_in_nI (by omega) (by omega), fun _ => hn, fun z => absurd (nI_le hle (by omega)) z⟩⟩
      · obtain ⟨n, hn⟩ := ih (i + 1) (by omega) (by omega) i (by omega) (fun x hx => by
          by_cases e : x = i
          · subst e; exact Nat.le_refl _
          · have := hmin x (by omega); omega)
        exact ⟨n, fun z => absurd z (nI_ge hin' (by omega)), fun _ => ⟨vp_in_nI (by omega) (by omega), vp_in_nI (by omega) (by omega), vp_in_nI (by omega) (by omega), vp_in_nI (by omega) (by omega), fun z => absurd ((nI_leI (by omega) (by omega)).mp z) hle, fun _ => hn⟩⟩
  exact loop (ne - 1) 1 (by omega) (Nat.le_refl _) 0 (by omega) (fun x hx => by
    have : x = 0 := by omega
    subst this
    exact Nat.le_refl _)
end PQ
