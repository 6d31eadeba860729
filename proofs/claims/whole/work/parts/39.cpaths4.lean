/-! ===== the class: Paths.search from its entry; what it says of a way ===== -/
section PU1
variable {M : am_I} {N : am_N} {s q : Nat} {post : am_I → am_N → Prop} {b : Nat}
theorem pS_w {ky fy eg po tl : Nat → Int32} {i : Nat} : pS (am_s M (0, 0, 5) tl) ky fy eg po (1, b, i) = M (1, b, i) := by
  rw [pS_o ⟨by simp, by simp, by simp, by simp⟩, am_s_other _ _ (by simp)]
theorem eq_X2_heavy {postI : Int32 → am_I → am_N → Prop} {w : Int32} {c : Nat} (hc : c < 64) : w_X2_heavy b w (nI c) M N postI ↔ postI (hvC M b w c) M N := by
  unfold w_X2_heavy hvC
  rw [nI_clamp (show c < 2 ^ 31 by omega)]
  exact ⟨fun z => z.2, fun z => ⟨vp_in_nI hc (by omega), z⟩⟩
theorem ci_loop {w lim : Int32} (hB : srB M b w lim) (hq : q < 8) (hs : M (1, b, 15) q = nI s) (hs64 : s < 64)
    (kk : ∀ (R : Nat → Prop) (key fi : Nat → Nat) (ky fy eg po tl : Nat → Int32), srEnd (okC M N b q w lim) (hNC M b w) s q R key fi ky fy → (∀ i, ¬ (64 * q ≤ i ∧ i < 64 * q + 64) → ky i = M (0, 0, 3) i ∧ fy i = M (0, 0, 4) i) → post (pS (am_s M (0, 0, 5) tl) ky fy eg po) N) :
    ∀ (j c : Nat), c + j = 64 → ∀ (ky tl : Nat → Int32), (∀ i, i < c → ky (64 * q + i) = nI NOWAY ∧ (okC M N b q w lim i → tl i = nI (128 * hNC M b w i + 1)) ∧ (¬ okC M N b q w lim i → tl i = 0)) → (∀ i, ¬ (64 * q ≤ i ∧ i < 64 * q + 64) → ky i = M (0, 0, 3) i) →
      ∃ n, w_X5_search_p28 b post n (nI q) lim (nI (64 * q)) w (nI c) (pS (am_s M (0, 0, 5) tl) ky (M (0, 0, 4)) (M (0, 0, 6)) (M (0, 0, 2))) N := by
  intro j
  induction j with
  | zero =>
    intro c hc ky tl hinv hfr
    have e : c = 64 := by omega
    subst e
    refine ⟨1, ?_⟩
    rw [w_X5_search_p28_s]
    unfold w_X5_search_p28_b
    refine ⟨fun _ => ⟨vp_in_nI hq (by omega), fun v hv => ?_⟩, fun z => absurd (Int32.le_refl _) z⟩
    rw [nI_clamp (show q < 2 ^ 31 by omega), pS_w, hs] at hv
    subst hv
    rw [eq_X11_isCell]
    have hcell : (0 : Int32) ≤ nI s ∧ nI s ≤ 63 := ⟨nI_pos' (by omega), nI_le (b := 63) (by omega) (by omega)⟩
    rw [am_bt hcell]
    refine ⟨fun _ => ?_, fun z => absurd z (by decide)⟩
    rw [nI_add, nI_clamp (show 64 * q + s < 2 ^ 31 by omega)]
    refine ⟨vp_in_nI (by omega) (by omega), vp_in_nI (by omega) (by omega), 65, ?_⟩
    rw [pS_uk, pS_uf, pS_ue, pS_up]
    refine cs_main (M := am_s M (0, 0, 5) tl) (ok := okC M N b q w lim) (h := hNC M b w) (ky0 := M (0, 0, 3)) (fy0 := M (0, 0, 4)) (fun i hi => ⟨fun ho => ?_, fun ho => ?_⟩) (fun i ho => ho.1) hq hs64 (fun R key fi ky' fy' eg' po' hE hfr' => kk R key fi ky' fy' eg' po' tl hE hfr') 64 0 (by omega) (fun x => x = s) (fun _ => False) (fun _ _ => False) (fun _ => 0) (fun _ => s) 1 (fun _ => s) _ _ _ _ ?_ (fun p hp => absurd hp id) (fun i hi => ?_)
    · rw [am_s_same]
      exact ⟨(hinv i hi).2.1 ho, (hvC_N hB hi).2.2 ho⟩
    · rw [am_s_same]
      exact (hinv i hi).2.2 ho
    · refine ⟨⟨⟨rfl, rfl, rfl⟩, fun c z => absurd z id, fun c z => ⟨0, 0, ⟨z.symm, rfl⟩, rfl, Nat.le_refl _, Nat.le_refl _⟩, fun p c z => absurd z id, fun p c z => absurd z id, fun c z hcs => absurd z hcs⟩, fun c z => ⟨z ▸ hs64, hs64⟩, fun c hc => ⟨fun z => ?_, fun z => ?_⟩, pk_us, fun i hi => ?_, fun c z _ => ⟨0, by omega, z.symm⟩, fun i hi j hj _ => by omega, ?_⟩
      · subst z
        rw [pk_us, pk_us]
        exact ⟨rfl, rfl⟩
      · rw [pk_un (by omega)]
        exact (hinv c hc).1
      · have : i = 0 := by omega
        subst this
        rw [pk_us]
        exact ⟨rfl, rfl, id⟩
      · rw [cntR_one hs64]
    · rw [pk_un (by omega), pk_un (by omega)]
      exact ⟨hfr i hi, rfl⟩
  | succ j ih =>
    intro c hc ky tl hinv hfr
    have hc64 : c < 64 := by omega
    have step : ∀ x : Int32, (okC M N b q w lim c → x = nI (128 * hNC M b w c + 1)) → (¬ okC M N b q w lim c → x = 0) → ∃ n, w_X5_search_p28 b post n (nI q) lim (nI (64 * q)) w (nI (c + 1)) (pS (am_s M (0, 0, 5) (upd tl c x)) (upd ky (64 * q + c) (nI NOWAY)) (M (0, 0, 4)) (M (0, 0, 6)) (M (0, 0, 2))) N := by
      intro x h1 h2
      refine ih (c + 1) (by omega) _ _ (fun i hi => ?_) (fun i hi => ?_)
      · by_cases e : i = c
        · subst e
          rw [pk_us, pk_us]
          exact ⟨rfl, h1, h2⟩
        · rw [pk_un (by omega), pk_un e]
          exact hinv i (by omega)
      · rw [pk_un (by omega)]
        exact hfr i hi
    have close : (∃ n, w_X5_search_p28_b b post (w_X5_search_p28 b post n) (nI q) lim (nI (64 * q)) w (nI c) (pS (am_s M (0, 0, 5) tl) ky (M (0, 0, 4)) (M (0, 0, 6)) (M (0, 0, 2))) N) → ∃ n, w_X5_search_p28 b post n (nI q) lim (nI (64 * q)) w (nI c) (pS (am_s M (0, 0, 5) tl) ky (M (0, 0, 4)) (M (0, 0, 6)) (M (0, 0, 2))) N := fun ⟨n, z⟩ => ⟨n + 1, z⟩
    apply close
    unfold w_X5_search_p28_b w_X5_search_p96
    have ehv : ∀ ky' : Nat → Int32, hvC (pS (am_s M (0, 0, 5) tl) ky' (M (0, 0, 4)) (M (0, 0, 6)) (M (0, 0, 2))) b w c = hvC M b w c := fun ky' => by unfold hvC; rw [pS_w]
    have enw : (2000000000 : Int32) = nI NOWAY := rfl
    simp only [nI_add, nI_1, nI_clamp (show 64 * q + c < 2 ^ 31 by omega), nI_clamp (show c < 2 ^ 31 by omega), nI_clamp (show q < 2 ^ 31 by omega), eq_X2_heavy hc64, eq_X11_bit, pS_uk, pS_ut, pS_w, ehv, enw]
    have g64 : ¬ (64 : Int32) ≤ nI c := nI_ge (b := 64) hc64 (by omega)
    have v1 : vp_in (nI (64 * q + c)) 512 := vp_in_nI (by omega) (by omega)
    have vq : vp_in (nI q) 8 := vp_in_nI hq (by omega)
    have vc : vp_in (nI c) 64 := vp_in_nI hc64 (by omega)
    obtain ⟨e1, e2, e3⟩ := hvC_N (N := N) (q := q) hB hc64
    by_cases hm : N (1, b, 19) q &&& am_bit (nI c) = 0
    · by_cases hl : M (1, b, 4) c + hvC M b w c ≤ lim
      · have ho : okC M N b q w lim c := ⟨hc64, hm, hl⟩
        obtain ⟨n, hn⟩ := step (nI (128 * hNC M b w c + 1)) (fun _ => rfl) (fun z => absurd ho z)
        have ev : hvC M b w c * 128 + 1 = nI (128 * hNC M b w c + 1) := by
          rw [e1, show nI (hNC M b w c) * 128 = nI (hNC M b w c * 128) from pk_mul _ 128, nI_1, Nat.mul_comm]
        rw [ev]
        exact ⟨n, fun z => absurd z g64, fun _ => ⟨v1, vq, fun z => absurd hm z, fun _ => ⟨vc, fun _ => ⟨fun _ => ⟨vc, hn⟩, fun z => absurd trivial z⟩, fun z => absurd hl z⟩⟩⟩
      · obtain ⟨n, hn⟩ := step 0 (fun z => absurd z.2.2 hl) (fun _ => rfl)
        exact ⟨n, fun z => absurd z g64, fun _ => ⟨v1, vq, fun z => absurd hm z, fun _ => ⟨vc, fun z => absurd z hl, fun _ => ⟨fun z => absurd z (by decide), fun _ => ⟨vc, hn⟩⟩⟩⟩⟩
    · obtain ⟨n, hn⟩ := step 0 (fun z => absurd z.2.1 hm) (fun _ => rfl)
      exact ⟨n, fun z => absurd z g64, fun _ => ⟨v1, vq, fun _ => ⟨fun z => absurd z (by decide), fun _ => ⟨vc, hn⟩⟩, fun z => absurd z hm⟩⟩
/-- search(cart, ..) of the class -/
theorem sp_X5_search {w lim : Int32} (hB : srB M b w lim) (hq : q < 8) (hs : M (1, b, 15) q = nI s) (hs64 : s < 64) (hw : ∀ p : Int32 → am_I → am_N → Prop, p w M N → w_X9_at 2 (nI q) 1 M N p)
    (kk : ∀ (R : Nat → Prop) (key fi : Nat → Nat) (ky fy eg po tl : Nat → Int32), srEnd (okC M N b q w lim) (hNC M b w) s q R key fi ky fy → (∀ i, ¬ (64 * q ≤ i ∧ i < 64 * q + 64) → ky i = M (0, 0, 3) i ∧ fy i = M (0, 0, 4) i) → post (pS (am_s M (0, 0, 5) tl) ky fy eg po) N) : w_X5_search b (nI q) lim M N post := by
  unfold w_X5_search
  rw [eq_X11_within]
  have hin : (0 : Int32) ≤ nI q ∧ nI q ≤ 7 := ⟨nI_pos' (by omega), nI_le (b := 7) (by omega) (by omega)⟩
  rw [am_bt hin]
  refine ⟨fun _ => hw _ ?_, fun z => absurd z (by decide)⟩
  rw [show nI q * 64 = nI (q * 64) from pk_mul q 64, Nat.mul_comm]
  have h := ci_loop (post := post) (N := N) hB hq hs hs64 kk 64 0 (by omega) (M (0, 0, 3)) (M (0, 0, 5)) (fun i hi => by omega) (fun i _ => rfl)
  rw [am_s_id, pS_id] at h
  exact h
end PU1
