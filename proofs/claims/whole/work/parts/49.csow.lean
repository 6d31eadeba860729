/-! ===== a plant is told: the class ===== -/
section CW
variable {M : am_I} {N : am_N} {post : am_I → am_N → Prop} {b : Nat}
/-- the class reads the priors pr of the first nk kinds -/
def priorC (M : am_I) (nk : Nat) (pr : Nat → Nat) : Prop := ∀ k, k < nk → (1 ≤ pr k ∧ pr k ≤ 100) ∧ ∀ (M' : am_I) (N' : am_N) (p : Int32 → am_I → am_N → Prop), M' (2, 4, 0) = M (2, 4, 0) → M' (2, 4, 1) = M (2, 4, 1) → p (nI (pr k)) M' N' → w_X9_at 4 (nI k) 1 M' N' p
theorem l0_mul : (0 : Int64) * 1000000000 = 0 := by decide
theorem sp_X6_sow {c nk : Nat} {pr : Nat → Nat} (hc : c < 64) (hnk : nk ≤ 5) (h1 : 0 < nk) (hpr : priorC M nk pr) (hst : tb (N (1, b, 6) 8) c = false)
    (h : post (am_s (am_u (am_u (am_u (am_u M (1, b, 7) c 0) (1, b, 8) c 0) (1, b, 9) c 0) (1, b, 11) c 0) (1, b, 12) (put5 (M (1, b, 12)) (5 * c) (sowS pr nk))) (am_ul N (1, b, 6) 8 (N (1, b, 6) 8 ||| am_bit (nI c)))) : w_X6_sow b (nI c) (nI nk) M N post := by
  unfold w_X6_sow
  rw [eq_X11_isCell]
  have hcell : (0 : Int32) ≤ nI c ∧ nI c ≤ 63 := ⟨nI_pos' (by omega), nI_le (b := 63) (by omega) (by omega)⟩
  rw [am_bt hcell]
  refine ⟨fun z => absurd z (by decide), fun _ => sp_X6_standsOn hc (fun e => by rw [hst] at e; cases e) (fun _ => ⟨fun _ => ?_, fun z => absurd rfl z⟩)⟩
  rw [eq_X11_bit, nI_clamp (show c < 2 ^ 31 by omega)]
  have v : vp_in (nI c) 64 := vp_in_nI hc (by omega)
  refine ⟨v, v, v, v, ?_⟩
  generalize hM1 : am_u (am_u (am_u (am_u M (1, b, 7) c 0) (1, b, 8) c 0) (1, b, 9) c 0) (1, b, 11) c 0 = M1 at h
  generalize am_ul N (1, b, 6) 8 (N (1, b, 6) 8 ||| am_bit (nI c)) = N1 at h
  have s1 : M1 (1, b, 12) = M (1, b, 12) := by rw [← hM1, am_u_o _ _ _ (by simp), am_u_o _ _ _ (by simp), am_u_o _ _ _ (by simp), am_u_o _ _ _ (by simp)]
  have t0 : M1 (2, 4, 0) = M (2, 4, 0) := by rw [← hM1, am_u_o _ _ _ (by simp), am_u_o _ _ _ (by simp), am_u_o _ _ _ (by simp), am_u_o _ _ _ (by simp)]
  have t1 : M1 (2, 4, 1) = M (2, 4, 1) := by rw [← hM1, am_u_o _ _ _ (by simp), am_u_o _ _ _ (by simp), am_u_o _ _ _ (by simp), am_u_o _ _ _ (by simp)]
  have hsl := sumN_le (pr := pr) (n := nk) (fun k hk => (hpr k hk).1.2)
  have hsp := sumN_pos (pr := pr) (n := nk) (fun k hk => (hpr k hk).1.1) h1
  have ix : ∀ k, nI c * 5 + nI k = nI (5 * c + k) := fun k => by rw [show nI c * 5 = nI (c * 5) from pk_mul c 5, nI_add, Nat.mul_comm]
  have hS0 : ¬ lN (sumN pr nk) ≤ 0 := fun y => by
    have := (pk_lLE (b := 0) (by omega) (by omega)).mp y
    omega
  have hS1 : ¬ lN (sumN pr nk) = 0 := fun y => by
    have := (pk_lEQ (b := 0) (by omega) (by omega)).mp y
    omega
  have loop2 : w_X6_sow_p94 b post 6 (nI c) (nI nk) (lN (sumN pr nk)) 0 M1 N1 := by
    have fl : ∀ k, k ≤ 5 → foldS (fun k (s : am_I) => am_u s (1, b, 12) (5 * c + k) (sowS pr nk k)) k M1 = am_s M1 (1, b, 12) (put5 (M (1, b, 12)) (5 * c) (firstK (fun k => M (1, b, 12) (5 * c + k)) (sowS pr nk) k)) := by
      intro k
      induction k with
      | zero =>
        intro _
        have e : firstK (fun k => M (1, b, 12) (5 * c + k)) (sowS pr nk) 0 = (fun k => M (1, b, 12) (5 * c + k)) := by funext i; simp [firstK]
        show M1 = _
        rw [e, put5_id, ← s1, am_s_id]
      | succ k ih =>
        intro hk
        show am_u (foldS _ k _) (1, b, 12) (5 * c + k) _ = _
        rw [ih (by omega), am_u_s, put5_upd (by omega), firstK_s]
    refine loopN 5 (fun n i (s : am_I) => w_X6_sow_p94 b post n (nI c) (nI nk) (lN (sumN pr nk)) i s N1) (fun k s => am_u s (1, b, 12) (5 * c + k) (sowS pr nk k)) M1 (fun m k hk hn => ?_) ?_
    · rw [fl k (by omega)] at hn ⊢
      rw [w_X6_sow_p94_s]
      unfold w_X6_sow_p94_b w_X6_sow_p124
      rw [ix, nI_clamp (show 5 * c + k < 2 ^ 31 by omega), nI_1 k]
      have v2 : vp_in (nI (5 * c + k)) 320 := vp_in_nI (by omega) (by omega)
      refine ⟨fun z => absurd z (nI_ge (b := 5) hk (by omega)), fun _ => ⟨fun z => ⟨fun y => absurd y hS0, fun _ => ⟨hS1, v2, ?_⟩⟩, fun z => ?_⟩⟩
      · have hge : ¬ k < nk := fun y => absurd z (nI_ge y (by omega))
        have e : sowS pr nk k = 0 := by unfold sowS; rw [if_neg hge]
        rw [e] at hn
        have e2 : ((0 : Int64) * 1000000000 / lN (sumN pr nk)).toInt32 = 0 := by
          rw [l0_mul, show (0 : Int64) = lN 0 from rfl, pk_lDiv (by omega) hsp (by omega), Nat.zero_div]
          rfl
        rw [e2]
        exact hn
      · have hlt : k < nk := by
          rcases Nat.lt_or_ge k nk with y | y
          · exact y
          · exact absurd (nI_le y (by omega)) z
        have e : sowS pr nk k = (lN (pr k) * 1000000000 / lN (sumN pr nk)).toInt32 := by unfold sowS; rw [if_pos hlt]
        refine (hpr k hlt).2 _ _ _ (by rw [am_s_other _ _ (by simp)]; exact t0) (by rw [am_s_other _ _ (by simp)]; exact t1) ⟨fun y => absurd y hS0, fun _ => ⟨hS1, v2, ?_⟩⟩
        have := (hpr k hlt).1
        rw [nI_l (by omega), ← e]
        exact hn
    · rw [fl 5 (Nat.le_refl _), put5_first]
      rw [w_X6_sow_p94_s]
      unfold w_X6_sow_p94_b
      exact ⟨fun _ => h, fun z => absurd (Int32.le_refl _) z⟩
  have key : ∀ (j k : Nat), k + j = nk → w_X6_sow_p62 b post (j + 1) (nI c) (nI nk) (lN (sumN pr k)) (nI k) M1 N1 := by
    intro j
    induction j with
    | zero =>
      intro k hk
      have e : k = nk := by omega
      subst e
      rw [w_X6_sow_p62_s]
      unfold w_X6_sow_p62_b
      exact ⟨fun _ => ⟨6, loop2⟩, fun z => absurd (Int32.le_refl _) z⟩
    | succ j ih =>
      intro k hk
      have hkn : k < nk := by omega
      have hn := ih (k + 1) (by omega)
      rw [w_X6_sow_p62_s]
      unfold w_X6_sow_p62_b
      refine ⟨fun z => absurd z (nI_ge hkn (by omega)), fun _ => (hpr k hkn).2 _ _ _ t0 t1 (fun u hu => ?_)⟩
      have := (hpr k hkn).1
      rw [nI_l (by omega), lN_add] at hu
      subst hu
      rw [nI_1 k]
      exact hn
  exact ⟨nk + 1, key nk 0 (by omega)⟩
end CW
