/-! ===== the class: Paths.search, whole ===== -/
section PT1
variable {M : am_I} {N : am_N} {ok : Nat → Prop} {h : Nat → Nat} {s q : Nat} {post : am_I → am_N → Prop} {b : Nat}
/-- what a search leaves in the rows of cart q -/
def srEnd (ok : Nat → Prop) (h : Nat → Nat) (s q : Nat) (R : Nat → Prop) (key fi : Nat → Nat) (ky fy : Nat → Int32) : Prop :=
  (∃ nd, nd ≤ 64 ∧ djkEnd nbr ok h s nd R key fi) ∧ (∀ c, R c → c < 64 ∧ fi c < 64 ∧ key c < 100000000) ∧ ∀ c, c < 64 → (R c → ky (64 * q + c) = nI (key c) ∧ fy (64 * q + c) = nI (fi c)) ∧ (¬ R c → ky (64 * q + c) = nI NOWAY)
theorem cs_end {nd : Nat} {R Dn : Nat → Prop} {sd : Nat → Nat → Prop} {key fi : Nat → Nat} {el : Nat → Nat} {ky fy eg po : Nat → Int32} (hnd : nd ≤ 64) (S : csS ok h s q nd R Dn sd key fi 0 el ky fy eg po) (hcl : ∀ p, Dn p → ∀ c, nbr p c → ok c → sd p c) : srEnd ok h s q R key fi ky fy := by
  obtain ⟨D, hR, hK, hpo, hel, hes, hin, hcn⟩ := S
  have hRD : ∀ c, R c → Dn c := fun c hc => Classical.byContradiction fun z => by
    obtain ⟨i, hi, -⟩ := hes c hc z
    omega
  refine ⟨⟨nd, hnd, ?_⟩, fun c hc => ⟨(hR c hc).1, (hR c hc).2, djk_small D hnd hc⟩, hK⟩
  obtain ⟨d1, d4, d5, d6, d7, d8⟩ := D
  have iff : ∀ p c, sd p c ↔ (R p ∧ nbr p c ∧ ok c) := fun p c => ⟨fun z => by
    obtain ⟨r1, r2, r3, -⟩ := d6 p c z
    exact ⟨d4 p r1, r2, r3⟩, fun z => hcl p (hRD p z.1) c z.2.1 z.2.2⟩
  refine ⟨d1, fun c z => z, d5, fun p c z => ?_, fun p c _ hc hn => absurd hc hn, fun c hc hcs => isLeast_congr (fun x => ?_) (d8 c hc hcs)⟩
  · obtain ⟨r1, r2, r3, r4, r5⟩ := d6 p c ((iff p c).mpr z)
    exact ⟨z.1, r2, r3, r4, r5⟩
  · exact ⟨fun ⟨p, r1, r2⟩ => ⟨p, (iff p c).mp r1, r2⟩, fun ⟨p, r1, r2⟩ => ⟨p, (iff p c).mpr r1, r2⟩⟩
theorem cs_take {nd : Nat} {R Dn : Nat → Prop} {sd : Nat → Nat → Prop} {key fi : Nat → Nat} {ne : Nat} {el : Nat → Nat} {ky fy eg po : Nat → Int32} {bi : Nat} (S : csS ok h s q nd R Dn sd key fi ne el ky fy eg po) (hbi : bi < ne) (hmin : ∀ c, R c → ¬ Dn c → key (el bi) ≤ key c) :
    csS ok h s q (nd + 1) R (fun x => Dn x ∨ x = el bi) sd key fi (ne - 1) (fun x => if x = bi then el (ne - 1) else el x) ky fy (upd eg bi (eg (ne - 1))) (upd po 4 (nI (ne - 1))) := by
  obtain ⟨D, hR, hK, hpo, hel, hes, hin, hcn⟩ := S
  refine ⟨djk_take D (hel bi hbi).2.1 hmin, hR, hK, pk_us, fun i hi => ?_, fun c hc hn => ?_, fun i hi j hj e => ?_, by omega⟩
  · by_cases e : i = bi
    · subst e
      simp only [if_true]
      rw [pk_us]
      obtain ⟨r1, r2, r3⟩ := hel (ne - 1) (by omega)
      exact ⟨r1, r2, fun z => z.elim r3 (fun y => by
        have := hin (ne - 1) (by omega) i hbi y
        omega)⟩
    · simp only [if_neg e]
      rw [pk_un e]
      obtain ⟨r1, r2, r3⟩ := hel i (by omega)
      exact ⟨r1, r2, fun z => z.elim r3 (fun y => e (hin i (by omega) bi hbi y))⟩
  · obtain ⟨i, hi, ei⟩ := hes c hc (fun z => hn (Or.inl z))
    have hib : i ≠ bi := fun z => hn (Or.inr (by rw [← ei, z]))
    by_cases e : i = ne - 1
    · exact ⟨bi, by omega, by simp only [if_true]; rw [← e]; exact ei⟩
    · exact ⟨i, by omega, by simp only [if_neg hib]; exact ei⟩
  · by_cases e1 : i = bi
    · by_cases e2 : j = bi
      · omega
      · simp only [e1, if_true, if_neg e2] at e
        have := hin (ne - 1) (by omega) j (by omega) e
        omega
    · by_cases e2 : j = bi
      · simp only [if_neg e1, e2, if_true] at e
        have := hin i (by omega) (ne - 1) (by omega) e
        omega
      · simp only [if_neg e1, if_neg e2] at e
        exact hin i (by omega) j (by omega) e
theorem cs_main (hT : tolls M ok h) (hok : ∀ c, ok c → c < 64) (hq : q < 8) (hs64 : s < 64) {ky0 fy0 : Nat → Int32}
    (kk : ∀ (R : Nat → Prop) (key fi : Nat → Nat) (ky fy eg po : Nat → Int32), srEnd ok h s q R key fi ky fy → (∀ i, ¬ (64 * q ≤ i ∧ i < 64 * q + 64) → ky i = ky0 i ∧ fy i = fy0 i) → post (pS M ky fy eg po) N) :
    ∀ (j i : Nat), i + j = 64 → ∀ (R Dn : Nat → Prop) (sd : Nat → Nat → Prop) (key fi : Nat → Nat) (ne : Nat) (el : Nat → Nat) (ky fy eg po : Nat → Int32), csS ok h s q i R Dn sd key fi ne el ky fy eg po → (∀ p, Dn p → ∀ c, nbr p c → ok c → sd p c) → (∀ i, ¬ (64 * q ≤ i ∧ i < 64 * q + 64) → ky i = ky0 i ∧ fy i = fy0 i) →
      w_X5_search_p184 b post (j + 1) (nI (64 * q)) (nI s) (nI i) (pS M ky fy eg po) N := by
  intro j
  induction j with
  | zero =>
    intro i hi R Dn sd key fi ne el ky fy eg po S hcl hfr
    have e : i = 64 := by omega
    subst e
    rw [w_X5_search_p184_s]
    unfold w_X5_search_p184_b
    have hne : ne = 0 := by
      have := cntR_le R 64
      have := S.2.2.2.2.2.2.2
      omega
    subst hne
    exact ⟨fun _ => kk R key fi ky fy eg po (cs_end (Nat.le_refl _) S hcl) hfr, fun z => absurd (Int32.le_refl _) z⟩
  | succ j ih =>
    intro i hi R Dn sd key fi ne el ky fy eg po S hcl hfr
    rw [w_X5_search_p184_s]
    unfold w_X5_search_p184_b
    have hpo := S.2.2.2.1
    simp only [pS_p, hpo, nI_1]
    have hne64 : ne ≤ 64 := by
      have := cntR_le R 64
      have := S.2.2.2.2.2.2.2
      omega
    refine ⟨fun z => absurd z (nI_ge (b := 64) (show i < 64 by omega) (by omega)), fun _ => ⟨fun z => ?_, fun z => ?_⟩⟩
    · have hne : ne = 0 := by
        have := (nI_leI (b := 0) (show ne < 2 ^ 31 by omega) (by omega)).mp z
        omega
      subst hne
      exact kk R key fi ky fy eg po (cs_end (by omega) S hcl) hfr
    · have hne : 0 < ne := by
        rcases Nat.eq_zero_or_pos ne with e | e
        · subst e; exact absurd (Int32.le_refl _) z
        · exact e
      refine sp_takeNearest hq (by omega) S hne (fun bi hbi hmin => ?_)
      have S1 := cs_take S hbi hmin
      obtain ⟨D, hR, hK, -, hel, -, -, -⟩ := S
      obtain ⟨r1, r2, r3⟩ := hel bi hbi
      unfold w_X5_goOnFrom
      refine cg_loop (Dn := fun x => Dn x ∨ x = el bi) (nd := i + 1) hT hok hq (hR _ r2).1 hs64 (Or.inr rfl) (by omega) 4 0 (by omega) R sd key fi (ne - 1) _ ky fy _ _ S1 (fun x hx => ?_) ?_ (fun i hi => by omega) ?_
      · rcases hx with hx | rfl
        · exact D.2.2.2.2.1 x _ hx r2 r3
        · exact Nat.le_refl _
      · obtain ⟨k, C, w1, w2, w3, w4⟩ := D.2.2.1 _ r2
        exact ⟨k, C, w1, w2, by omega, w4⟩
      · intro R' sd' key' fi' ne' el' ky' fy' eg' po' S' hs' hsub' hout'
        refine ih (i + 1) (by omega) R' _ sd' key' fi' ne' el' ky' fy' eg' po' S' (fun x hx c hxc hoc => ?_) (fun i hi => ⟨(hout' i hi).1.trans (hfr i hi).1, (hout' i hi).2.trans (hfr i hi).2⟩)
        rcases hx with hx | rfl
        · exact hsub' _ _ (hcl x hx c hxc hoc)
        · obtain ⟨-, -, k, hk, hb⟩ := hxc
          exact hs' k hk c hb hoc
theorem pS_ut {ky fy eg po tl : Nat → Int32} {k : Nat} {x : Int32} : am_u (pS (am_s M (0, 0, 5) tl) ky fy eg po) (0, 0, 5) k x = pS (am_s M (0, 0, 5) (upd tl k x)) ky fy eg po := by
  unfold am_u
  rw [pS_o (by decide), am_s_same]
  unfold pS
  rw [am_s_comm _ (show (0, 0, 2) ≠ (0, 0, 5) by decide), am_s_comm _ (show (0, 0, 6) ≠ (0, 0, 5) by decide), am_s_comm _ (show (0, 0, 4) ≠ (0, 0, 5) by decide), am_s_comm _ (show (0, 0, 3) ≠ (0, 0, 5) by decide), am_s_s]
/-- heavy and 'may be entered', as the class has them -/
def hvC (M : am_I) (b : Nat) (w : Int32) (c : Nat) : Int32 := w * (1 + M (1, b, 3) c / 100)
def okC (M : am_I) (N : am_N) (b q : Nat) (w lim : Int32) (c : Nat) : Prop := c < 64 ∧ N (1, b, 19) q &&& am_bit (nI c) = 0 ∧ M (1, b, 4) c + hvC M b w c ≤ lim
def hNC (M : am_I) (b : Nat) (w : Int32) (c : Nat) : Nat := (hvC M b w c).toNatClampNeg
def srB (M : am_I) (b : Nat) (w lim : Int32) : Prop := (∃ x, x ≤ 50 ∧ w = nI x) ∧ (∀ c, c < 64 → ∃ t, t < 2 ^ 31 ∧ M (1, b, 3) c = nI t) ∧ (∀ c, c < 64 → ∃ t, t ≤ 9999 ∧ M (1, b, 4) c = nI t) ∧ ∃ t, t ≤ 9999 ∧ lim = nI t
theorem hvC_N {w lim : Int32} {c : Nat} (hB : srB M b w lim) (hc : c < 64) : hvC M b w c = nI (hNC M b w c) ∧ hNC M b w c < 2 ^ 30 + 2 ^ 29 ∧ (okC M N b q w lim c → hNC M b w c ≤ 9999) := by
  obtain ⟨⟨x, hw, ew⟩, h1, h2, L, hL, eL⟩ := hB
  obtain ⟨t, ht, et⟩ := h1 c hc
  obtain ⟨r, hr, er⟩ := h2 c hc
  have hd : t / 100 ≤ 21474836 := by omega
  have hm : x * (1 + t / 100) ≤ 50 * 21474837 := Nat.mul_le_mul hw (by omega)
  have e1 : hvC M b w c = nI (x * (1 + t / 100)) := by
    unfold hvC
    rw [ew, et]
    rw [show nI t / 100 = nI (t / 100) from pk_div (d := 100) ht (by omega) (by omega), show (1 : Int32) + nI (t / 100) = nI (1 + t / 100) from nI_add 1 _, pk_mul]
  have e2 : hNC M b w c = x * (1 + t / 100) := by
    unfold hNC
    rw [e1]
    exact nI_clamp (by omega)
  refine ⟨by rw [e1, e2], by omega, ?_⟩
  rintro ⟨-, -, ho⟩
  rw [e1, er, eL, nI_add] at ho
  have : r + x * (1 + t / 100) ≤ L := (nI_leI (by omega) (by omega)).mp ho
  omega
end PT1
