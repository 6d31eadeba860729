/-! ===== count ===== -/
section CO
variable {M M1 : am_I} {N N1 : am_N} {a1 : Int32}
theorem call_count (h : INV M N) : w_X11_count a1 M N (fun r M1 N1 => w_X12_count a1 M1 N1 (fun r2 M2 N2 => r = r2 ∧ INV M2 N2)) := by
  have h00 := h
  obtain ⟨hw, hS, hr⟩ := h
  obtain ⟨bk, lg, NN, now, wd, P, I, R⟩ := hw
  obtain ⟨ar, cr, ks, T⟩ := hS
  obtain ⟨t, B, r, f9, PP, SS, L⟩ := hr
  have S := I.cl.w
  have Q := R.rm.w
  have hcw := R.ct.w
  have hcc := R.ct.c
  have hr8 := L.r8
  have hpl := L.pl
  unfold w_X11_count
  by_cases n0 : a1 = 0
  · subst n0
    have e : w_X12_count 0 M N (fun r2 M2 N2 => M (1, 0, 0) 8 = r2 ∧ INV M2 N2) := by
      unfold w_X12_count
      exact ⟨fun _ => ⟨by rw [S.w.s.now, Q.f], h00⟩, fun z => absurd z (by decide), fun z => absurd z (by decide), fun z => absurd z (by decide), fun z => absurd z (by decide), fun z => absurd z (by decide), fun z => absurd z (by decide), fun z => absurd z (by decide), fun z => absurd z (by decide), fun z => absurd z (by decide), fun z => absurd z (by decide), fun z => absurd z (by decide), fun z => absurd z (by decide), fun z => absurd z (by decide), fun z => absurd z (by decide), fun z => absurd z (by decide), fun z => absurd z (by decide), fun z => absurd rfl z⟩
    exact ⟨fun _ => e, fun z => absurd z (by decide), fun z => absurd z (by decide), fun z => absurd z (by decide), fun z => absurd z (by decide), fun z => absurd z (by decide), fun z => absurd z (by decide), fun z => absurd z (by decide), fun z => absurd z (by decide), fun z => absurd z (by decide), fun z => absurd z (by decide), fun z => absurd z (by decide), fun z => absurd z (by decide), fun z => absurd z (by decide), fun z => absurd z (by decide), fun z => absurd z (by decide), fun z => absurd z (by decide), fun z => absurd rfl z⟩
  by_cases n1 : a1 = 1
  · subst n1
    have e : w_X12_count 1 M N (fun r2 M2 N2 => M (2, 0, 0) 3 = r2 ∧ INV M2 N2) := by
      unfold w_X12_count
      exact ⟨fun z => absurd z (by decide), fun _ => ⟨by rw [I.L.t.2.1, R.ct.n], h00⟩, fun z => absurd z (by decide), fun z => absurd z (by decide), fun z => absurd z (by decide), fun z => absurd z (by decide), fun z => absurd z (by decide), fun z => absurd z (by decide), fun z => absurd z (by decide), fun z => absurd z (by decide), fun z => absurd z (by decide), fun z => absurd z (by decide), fun z => absurd z (by decide), fun z => absurd z (by decide), fun z => absurd z (by decide), fun z => absurd z (by decide), fun z => absurd z (by decide), fun _ z => absurd rfl z⟩
    exact ⟨fun z => absurd z (by decide), fun _ => e, fun z => absurd z (by decide), fun z => absurd z (by decide), fun z => absurd z (by decide), fun z => absurd z (by decide), fun z => absurd z (by decide), fun z => absurd z (by decide), fun z => absurd z (by decide), fun z => absurd z (by decide), fun z => absurd z (by decide), fun z => absurd z (by decide), fun z => absurd z (by decide), fun z => absurd z (by decide), fun z => absurd z (by decide), fun z => absurd z (by decide), fun z => absurd z (by decide), fun _ z => absurd rfl z⟩
  by_cases n2 : a1 = 2
  · subst n2
    have e : w_X12_count 2 M N (fun r2 M2 N2 => M (2, 1, 0) 3 = r2 ∧ INV M2 N2) := by
      unfold w_X12_count
      exact ⟨fun z => absurd z (by decide), fun z => absurd z (by decide), fun _ => ⟨by rw [I.K.t1.2.1, R.ct.r], h00⟩, fun z => absurd z (by decide), fun z => absurd z (by decide), fun z => absurd z (by decide), fun z => absurd z (by decide), fun z => absurd z (by decide), fun z => absurd z (by decide), fun z => absurd z (by decide), fun z => absurd z (by decide), fun z => absurd z (by decide), fun z => absurd z (by decide), fun z => absurd z (by decide), fun z => absurd z (by decide), fun z => absurd z (by decide), fun z => absurd z (by decide), fun _ _ z => absurd rfl z⟩
    exact ⟨fun z => absurd z (by decide), fun z => absurd z (by decide), fun _ => e, fun z => absurd z (by decide), fun z => absurd z (by decide), fun z => absurd z (by decide), fun z => absurd z (by decide), fun z => absurd z (by decide), fun z => absurd z (by decide), fun z => absurd z (by decide), fun z => absurd z (by decide), fun z => absurd z (by decide), fun z => absurd z (by decide), fun z => absurd z (by decide), fun z => absurd z (by decide), fun z => absurd z (by decide), fun z => absurd z (by decide), fun _ _ z => absurd rfl z⟩
  by_cases n3 : a1 = 3
  · subst n3
    have e : w_X12_count 3 M N (fun r2 M2 N2 => M (2, 2, 0) 3 = r2 ∧ INV M2 N2) := by
      unfold w_X12_count
      exact ⟨fun z => absurd z (by decide), fun z => absurd z (by decide), fun z => absurd z (by decide), fun _ => ⟨by rw [I.K.t2.2.1, R.ct.c], h00⟩, fun z => absurd z (by decide), fun z => absurd z (by decide), fun z => absurd z (by decide), fun z => absurd z (by decide), fun z => absurd z (by decide), fun z => absurd z (by decide), fun z => absurd z (by decide), fun z => absurd z (by decide), fun z => absurd z (by decide), fun z => absurd z (by decide), fun z => absurd z (by decide), fun z => absurd z (by decide), fun z => absurd z (by decide), fun _ _ _ z => absurd rfl z⟩
    exact ⟨fun z => absurd z (by decide), fun z => absurd z (by decide), fun z => absurd z (by decide), fun _ => e, fun z => absurd z (by decide), fun z => absurd z (by decide), fun z => absurd z (by decide), fun z => absurd z (by decide), fun z => absurd z (by decide), fun z => absurd z (by decide), fun z => absurd z (by decide), fun z => absurd z (by decide), fun z => absurd z (by decide), fun z => absurd z (by decide), fun z => absurd z (by decide), fun z => absurd z (by decide), fun z => absurd z (by decide), fun _ _ _ z => absurd rfl z⟩
  by_cases n4 : a1 = 4
  · subst n4
    have e : w_X12_count 4 M N (fun r2 M2 N2 => M (2, 3, 0) 3 = r2 ∧ INV M2 N2) := by
      unfold w_X12_count
      exact ⟨fun z => absurd z (by decide), fun z => absurd z (by decide), fun z => absurd z (by decide), fun z => absurd z (by decide), fun _ => ⟨by rw [I.K.t3.2.1, R.ct.w], h00⟩, fun z => absurd z (by decide), fun z => absurd z (by decide), fun z => absurd z (by decide), fun z => absurd z (by decide), fun z => absurd z (by decide), fun z => absurd z (by decide), fun z => absurd z (by decide), fun z => absurd z (by decide), fun z => absurd z (by decide), fun z => absurd z (by decide), fun z => absurd z (by decide), fun z => absurd z (by decide), fun _ _ _ _ z => absurd rfl z⟩
    exact ⟨fun z => absurd z (by decide), fun z => absurd z (by decide), fun z => absurd z (by decide), fun z => absurd z (by decide), fun _ => e, fun z => absurd z (by decide), fun z => absurd z (by decide), fun z => absurd z (by decide), fun z => absurd z (by decide), fun z => absurd z (by decide), fun z => absurd z (by decide), fun z => absurd z (by decide), fun z => absurd z (by decide), fun z => absurd z (by decide), fun z => absurd z (by decide), fun z => absurd z (by decide), fun z => absurd z (by decide), fun _ _ _ _ z => absurd rfl z⟩
  by_cases n5 : a1 = 5
  · subst n5
    obtain ⟨v, q1, q2⟩ := qc_works (st := 0) S Q hcw (by decide)
    have e : w_X12_count 5 M N (fun r2 M2 N2 => v = r2 ∧ INV M2 N2) := by
      unfold w_X12_count
      exact ⟨fun z => absurd z (by decide), fun z => absurd z (by decide), fun z => absurd z (by decide), fun z => absurd z (by decide), fun z => absurd z (by decide), fun _ => q2 _ ⟨rfl, h00⟩, fun z => absurd z (by decide), fun z => absurd z (by decide), fun z => absurd z (by decide), fun z => absurd z (by decide), fun z => absurd z (by decide), fun z => absurd z (by decide), fun z => absurd z (by decide), fun z => absurd z (by decide), fun z => absurd z (by decide), fun z => absurd z (by decide), fun z => absurd z (by decide), fun _ _ _ _ _ z => absurd rfl z⟩
    exact ⟨fun z => absurd z (by decide), fun z => absurd z (by decide), fun z => absurd z (by decide), fun z => absurd z (by decide), fun z => absurd z (by decide), fun _ => q1 _ e, fun z => absurd z (by decide), fun z => absurd z (by decide), fun z => absurd z (by decide), fun z => absurd z (by decide), fun z => absurd z (by decide), fun z => absurd z (by decide), fun z => absurd z (by decide), fun z => absurd z (by decide), fun z => absurd z (by decide), fun z => absurd z (by decide), fun z => absurd z (by decide), fun _ _ _ _ _ z => absurd rfl z⟩
  by_cases n6 : a1 = 6
  · subst n6
    obtain ⟨v, q1, q2⟩ := qc_works (st := 2) S Q hcw (by decide)
    have e : w_X12_count 6 M N (fun r2 M2 N2 => v = r2 ∧ INV M2 N2) := by
      unfold w_X12_count
      exact ⟨fun z => absurd z (by decide), fun z => absurd z (by decide), fun z => absurd z (by decide), fun z => absurd z (by decide), fun z => absurd z (by decide), fun z => absurd z (by decide), fun _ => q2 _ ⟨rfl, h00⟩, fun z => absurd z (by decide), fun z => absurd z (by decide), fun z => absurd z (by decide), fun z => absurd z (by decide), fun z => absurd z (by decide), fun z => absurd z (by decide), fun z => absurd z (by decide), fun z => absurd z (by decide), fun z => absurd z (by decide), fun z => absurd z (by decide), fun _ _ _ _ _ _ z => absurd rfl z⟩
    exact ⟨fun z => absurd z (by decide), fun z => absurd z (by decide), fun z => absurd z (by decide), fun z => absurd z (by decide), fun z => absurd z (by decide), fun z => absurd z (by decide), fun _ => q1 _ e, fun z => absurd z (by decide), fun z => absurd z (by decide), fun z => absurd z (by decide), fun z => absurd z (by decide), fun z => absurd z (by decide), fun z => absurd z (by decide), fun z => absurd z (by decide), fun z => absurd z (by decide), fun z => absurd z (by decide), fun z => absurd z (by decide), fun _ _ _ _ _ _ z => absurd rfl z⟩
  by_cases n7 : a1 = 7
  · subst n7
    have e : w_X12_count 7 M N (fun r2 M2 N2 => M (2, 5, 0) 3 = r2 ∧ INV M2 N2) := by
      unfold w_X12_count
      exact ⟨fun z => absurd z (by decide), fun z => absurd z (by decide), fun z => absurd z (by decide), fun z => absurd z (by decide), fun z => absurd z (by decide), fun z => absurd z (by decide), fun z => absurd z (by decide), fun _ => ⟨by rw [I.K.t5.2.1, R.ct.l], h00⟩, fun z => absurd z (by decide), fun z => absurd z (by decide), fun z => absurd z (by decide), fun z => absurd z (by decide), fun z => absurd z (by decide), fun z => absurd z (by decide), fun z => absurd z (by decide), fun z => absurd z (by decide), fun z => absurd z (by decide), fun _ _ _ _ _ _ _ z => absurd rfl z⟩
    exact ⟨fun z => absurd z (by decide), fun z => absurd z (by decide), fun z => absurd z (by decide), fun z => absurd z (by decide), fun z => absurd z (by decide), fun z => absurd z (by decide), fun z => absurd z (by decide), fun _ => e, fun z => absurd z (by decide), fun z => absurd z (by decide), fun z => absurd z (by decide), fun z => absurd z (by decide), fun z => absurd z (by decide), fun z => absurd z (by decide), fun z => absurd z (by decide), fun z => absurd z (by decide), fun z => absurd z (by decide), fun _ _ _ _ _ _ _ z => absurd rfl z⟩
  by_cases n8 : a1 = 8
  · subst n8
    have e : w_X12_count 8 M N (fun r2 M2 N2 => M (2, 4, 0) 3 = r2 ∧ INV M2 N2) := by
      unfold w_X12_count
      exact ⟨fun z => absurd z (by decide), fun z => absurd z (by decide), fun z => absurd z (by decide), fun z => absurd z (by decide), fun z => absurd z (by decide), fun z => absurd z (by decide), fun z => absurd z (by decide), fun z => absurd z (by decide), fun _ => ⟨by rw [I.K.t4.2.1, R.ct.k], h00⟩, fun z => absurd z (by decide), fun z => absurd z (by decide), fun z => absurd z (by decide), fun z => absurd z (by decide), fun z => absurd z (by decide), fun z => absurd z (by decide), fun z => absurd z (by decide), fun z => absurd z (by decide), fun _ _ _ _ _ _ _ _ z => absurd rfl z⟩
    exact ⟨fun z => absurd z (by decide), fun z => absurd z (by decide), fun z => absurd z (by decide), fun z => absurd z (by decide), fun z => absurd z (by decide), fun z => absurd z (by decide), fun z => absurd z (by decide), fun z => absurd z (by decide), fun _ => e, fun z => absurd z (by decide), fun z => absurd z (by decide), fun z => absurd z (by decide), fun z => absurd z (by decide), fun z => absurd z (by decide), fun z => absurd z (by decide), fun z => absurd z (by decide), fun z => absurd z (by decide), fun _ _ _ _ _ _ _ _ z => absurd rfl z⟩
  by_cases n9 : a1 = 9
  · subst n9
    obtain ⟨v, q1, q2⟩ := qc_stands S Q P.good
    have e : w_X12_count 9 M N (fun r2 M2 N2 => v = r2 ∧ INV M2 N2) := by
      unfold w_X12_count
      exact ⟨fun z => absurd z (by decide), fun z => absurd z (by decide), fun z => absurd z (by decide), fun z => absurd z (by decide), fun z => absurd z (by decide), fun z => absurd z (by decide), fun z => absurd z (by decide), fun z => absurd z (by decide), fun z => absurd z (by decide), fun _ => q2 _ ⟨rfl, h00⟩, fun z => absurd z (by decide), fun z => absurd z (by decide), fun z => absurd z (by decide), fun z => absurd z (by decide), fun z => absurd z (by decide), fun z => absurd z (by decide), fun z => absurd z (by decide), fun _ _ _ _ _ _ _ _ _ z => absurd rfl z⟩
    exact ⟨fun z => absurd z (by decide), fun z => absurd z (by decide), fun z => absurd z (by decide), fun z => absurd z (by decide), fun z => absurd z (by decide), fun z => absurd z (by decide), fun z => absurd z (by decide), fun z => absurd z (by decide), fun z => absurd z (by decide), fun _ => q1 _ e, fun z => absurd z (by decide), fun z => absurd z (by decide), fun z => absurd z (by decide), fun z => absurd z (by decide), fun z => absurd z (by decide), fun z => absurd z (by decide), fun z => absurd z (by decide), fun _ _ _ _ _ _ _ _ _ z => absurd rfl z⟩
  by_cases n10 : a1 = 10
  · subst n10
    have e : w_X12_count 10 M N (fun r2 M2 N2 => nI (popT (N (1, 0, 6) 9) 64) = r2 ∧ INV M2 N2) := by
      unfold w_X12_count
      exact ⟨fun z => absurd z (by decide), fun z => absurd z (by decide), fun z => absurd z (by decide), fun z => absurd z (by decide), fun z => absurd z (by decide), fun z => absurd z (by decide), fun z => absurd z (by decide), fun z => absurd z (by decide), fun z => absurd z (by decide), fun z => absurd z (by decide), fun _ => r_illMany S Q ⟨rfl, h00⟩, fun z => absurd z (by decide), fun z => absurd z (by decide), fun z => absurd z (by decide), fun z => absurd z (by decide), fun z => absurd z (by decide), fun z => absurd z (by decide), fun _ _ _ _ _ _ _ _ _ _ z => absurd rfl z⟩
    exact ⟨fun z => absurd z (by decide), fun z => absurd z (by decide), fun z => absurd z (by decide), fun z => absurd z (by decide), fun z => absurd z (by decide), fun z => absurd z (by decide), fun z => absurd z (by decide), fun z => absurd z (by decide), fun z => absurd z (by decide), fun z => absurd z (by decide), fun _ => eq_bitCount.mpr e, fun z => absurd z (by decide), fun z => absurd z (by decide), fun z => absurd z (by decide), fun z => absurd z (by decide), fun z => absurd z (by decide), fun z => absurd z (by decide), fun _ _ _ _ _ _ _ _ _ _ z => absurd rfl z⟩
  by_cases n11 : a1 = 11
  · subst n11
    have e : w_X12_count 11 M N (fun r2 M2 N2 => M (2, 6, 0) 3 = r2 ∧ INV M2 N2) := by
      unfold w_X12_count
      exact ⟨fun z => absurd z (by decide), fun z => absurd z (by decide), fun z => absurd z (by decide), fun z => absurd z (by decide), fun z => absurd z (by decide), fun z => absurd z (by decide), fun z => absurd z (by decide), fun z => absurd z (by decide), fun z => absurd z (by decide), fun z => absurd z (by decide), fun z => absurd z (by decide), fun _ => ⟨by rw [T.t.2.1, T.r], h00⟩, fun z => absurd z (by decide), fun z => absurd z (by decide), fun z => absurd z (by decide), fun z => absurd z (by decide), fun z => absurd z (by decide), fun _ _ _ _ _ _ _ _ _ _ _ z => absurd rfl z⟩
    exact ⟨fun z => absurd z (by decide), fun z => absurd z (by decide), fun z => absurd z (by decide), fun z => absurd z (by decide), fun z => absurd z (by decide), fun z => absurd z (by decide), fun z => absurd z (by decide), fun z => absurd z (by decide), fun z => absurd z (by decide), fun z => absurd z (by decide), fun z => absurd z (by decide), fun _ => e, fun z => absurd z (by decide), fun z => absurd z (by decide), fun z => absurd z (by decide), fun z => absurd z (by decide), fun z => absurd z (by decide), fun _ _ _ _ _ _ _ _ _ _ _ z => absurd rfl z⟩
  by_cases n12 : a1 = 12
  · subst n12
    have e : w_X12_count 12 M N (fun r2 M2 N2 => M (0, 0, 0) 8 = r2 ∧ INV M2 N2) := by
      unfold w_X12_count
      exact ⟨fun z => absurd z (by decide), fun z => absurd z (by decide), fun z => absurd z (by decide), fun z => absurd z (by decide), fun z => absurd z (by decide), fun z => absurd z (by decide), fun z => absurd z (by decide), fun z => absurd z (by decide), fun z => absurd z (by decide), fun z => absurd z (by decide), fun z => absurd z (by decide), fun z => absurd z (by decide), fun _ => ⟨by rw [L.rc, L.rm], h00⟩, fun z => absurd z (by decide), fun z => absurd z (by decide), fun z => absurd z (by decide), fun z => absurd z (by decide), fun _ _ _ _ _ _ _ _ _ _ _ _ z => absurd rfl z⟩
    exact ⟨fun z => absurd z (by decide), fun z => absurd z (by decide), fun z => absurd z (by decide), fun z => absurd z (by decide), fun z => absurd z (by decide), fun z => absurd z (by decide), fun z => absurd z (by decide), fun z => absurd z (by decide), fun z => absurd z (by decide), fun z => absurd z (by decide), fun z => absurd z (by decide), fun z => absurd z (by decide), fun _ => e, fun z => absurd z (by decide), fun z => absurd z (by decide), fun z => absurd z (by decide), fun z => absurd z (by decide), fun _ _ _ _ _ _ _ _ _ _ _ _ z => absurd rfl z⟩
  by_cases n13 : a1 = 13
  · subst n13
    have e : w_X12_count 13 M N (fun r2 M2 N2 => M (0, 0, 12) 3 = r2 ∧ INV M2 N2) := by
      unfold w_X12_count
      have q0 : M (3, 0, 0) 45 = (0 : Int32) ↔ r = 0 := by rw [L.rm]; exact nI_eq (b := 0) (by omega) (by omega)
      have g : ((¬ (M (3, 0, 0) 45) = 0 → vp_in ((M (3, 0, 0) 45) - 1) 9 ∧ (M (0, 0, 12) 3 = M (3, 0, 34) ((M (3, 0, 0) 45) - 1).toNatClampNeg ∧ INV M N)) ∧ ((M (3, 0, 0) 45) = 0 → M (0, 0, 12) 3 = 0 ∧ INV M N)) := by
        refine ⟨fun z => ?_, fun z => ⟨?_, h00⟩⟩
        · have hr : 0 < r := Nat.pos_of_ne_zero fun w => z (q0.mpr w)
          have e1 : M (3, 0, 0) 45 - 1 = nI (r - 1) := by
            rw [L.rm]
            have := nI_pred (r - 1)
            rw [show r - 1 + 1 = r by omega] at this
            exact this
          rw [e1, nI_clamp (show r - 1 < 2 ^ 31 by omega)]
          exact ⟨vp_in_nI (by omega) (by omega), by rw [L.cn, (L.pg hr).2], h00⟩
        · rw [L.cn, L.p0 (q0.mp z)]; rfl
      exact ⟨fun z => absurd z (by decide), fun z => absurd z (by decide), fun z => absurd z (by decide), fun z => absurd z (by decide), fun z => absurd z (by decide), fun z => absurd z (by decide), fun z => absurd z (by decide), fun z => absurd z (by decide), fun z => absurd z (by decide), fun z => absurd z (by decide), fun z => absurd z (by decide), fun z => absurd z (by decide), fun z => absurd z (by decide), fun _ => g, fun z => absurd z (by decide), fun z => absurd z (by decide), fun z => absurd z (by decide), fun _ _ _ _ _ _ _ _ _ _ _ _ _ z => absurd rfl z⟩
    exact ⟨fun z => absurd z (by decide), fun z => absurd z (by decide), fun z => absurd z (by decide), fun z => absurd z (by decide), fun z => absurd z (by decide), fun z => absurd z (by decide), fun z => absurd z (by decide), fun z => absurd z (by decide), fun z => absurd z (by decide), fun z => absurd z (by decide), fun z => absurd z (by decide), fun z => absurd z (by decide), fun z => absurd z (by decide), fun _ => e, fun z => absurd z (by decide), fun z => absurd z (by decide), fun z => absurd z (by decide), fun _ _ _ _ _ _ _ _ _ _ _ _ _ z => absurd rfl z⟩
  by_cases n14 : a1 = 14
  · subst n14
    have e : w_X12_count 14 M N (fun r2 M2 N2 => M (0, 0, 7) 4 = r2 ∧ INV M2 N2) := by
      unfold w_X12_count
      exact ⟨fun z => absurd z (by decide), fun z => absurd z (by decide), fun z => absurd z (by decide), fun z => absurd z (by decide), fun z => absurd z (by decide), fun z => absurd z (by decide), fun z => absurd z (by decide), fun z => absurd z (by decide), fun z => absurd z (by decide), fun z => absurd z (by decide), fun z => absurd z (by decide), fun z => absurd z (by decide), fun z => absurd z (by decide), fun z => absurd z (by decide), fun _ => ⟨by rw [L.bc, L.bm], h00⟩, fun z => absurd z (by decide), fun z => absurd z (by decide), fun _ _ _ _ _ _ _ _ _ _ _ _ _ _ z => absurd rfl z⟩
    exact ⟨fun z => absurd z (by decide), fun z => absurd z (by decide), fun z => absurd z (by decide), fun z => absurd z (by decide), fun z => absurd z (by decide), fun z => absurd z (by decide), fun z => absurd z (by decide), fun z => absurd z (by decide), fun z => absurd z (by decide), fun z => absurd z (by decide), fun z => absurd z (by decide), fun z => absurd z (by decide), fun z => absurd z (by decide), fun z => absurd z (by decide), fun _ => e, fun z => absurd z (by decide), fun z => absurd z (by decide), fun _ _ _ _ _ _ _ _ _ _ _ _ _ _ z => absurd rfl z⟩
  by_cases n15 : a1 = 15
  · subst n15
    obtain ⟨v, q1, q2⟩ := qc_stuck S Q (fun q z => z) hcc
    have e : w_X12_count 15 M N (fun r2 M2 N2 => v = r2 ∧ INV M2 N2) := by
      unfold w_X12_count
      exact ⟨fun z => absurd z (by decide), fun z => absurd z (by decide), fun z => absurd z (by decide), fun z => absurd z (by decide), fun z => absurd z (by decide), fun z => absurd z (by decide), fun z => absurd z (by decide), fun z => absurd z (by decide), fun z => absurd z (by decide), fun z => absurd z (by decide), fun z => absurd z (by decide), fun z => absurd z (by decide), fun z => absurd z (by decide), fun z => absurd z (by decide), fun z => absurd z (by decide), fun _ => q2 _ ⟨rfl, h00⟩, fun z => absurd z (by decide), fun _ _ _ _ _ _ _ _ _ _ _ _ _ _ _ z => absurd rfl z⟩
    exact ⟨fun z => absurd z (by decide), fun z => absurd z (by decide), fun z => absurd z (by decide), fun z => absurd z (by decide), fun z => absurd z (by decide), fun z => absurd z (by decide), fun z => absurd z (by decide), fun z => absurd z (by decide), fun z => absurd z (by decide), fun z => absurd z (by decide), fun z => absurd z (by decide), fun z => absurd z (by decide), fun z => absurd z (by decide), fun z => absurd z (by decide), fun z => absurd z (by decide), fun _ => q1 _ e, fun z => absurd z (by decide), fun _ _ _ _ _ _ _ _ _ _ _ _ _ _ _ z => absurd rfl z⟩
  by_cases n16 : a1 = 16
  · subst n16
    obtain ⟨v, q1, q2⟩ := qc_got S Q
    have e : w_X12_count 16 M N (fun r2 M2 N2 => v = r2 ∧ INV M2 N2) := by
      unfold w_X12_count
      exact ⟨fun z => absurd z (by decide), fun z => absurd z (by decide), fun z => absurd z (by decide), fun z => absurd z (by decide), fun z => absurd z (by decide), fun z => absurd z (by decide), fun z => absurd z (by decide), fun z => absurd z (by decide), fun z => absurd z (by decide), fun z => absurd z (by decide), fun z => absurd z (by decide), fun z => absurd z (by decide), fun z => absurd z (by decide), fun z => absurd z (by decide), fun z => absurd z (by decide), fun z => absurd z (by decide), fun _ => q2 _ ⟨rfl, h00⟩, fun _ _ _ _ _ _ _ _ _ _ _ _ _ _ _ _ z => absurd rfl z⟩
    exact ⟨fun z => absurd z (by decide), fun z => absurd z (by decide), fun z => absurd z (by decide), fun z => absurd z (by decide), fun z => absurd z (by decide), fun z => absurd z (by decide), fun z => absurd z (by decide), fun z => absurd z (by decide), fun z => absurd z (by decide), fun z => absurd z (by decide), fun z => absurd z (by decide), fun z => absurd z (by decide), fun z => absurd z (by decide), fun z => absurd z (by decide), fun z => absurd z (by decide), fun z => absurd z (by decide), fun _ => q1 _ e, fun _ _ _ _ _ _ _ _ _ _ _ _ _ _ _ _ z => absurd rfl z⟩
  have e : w_X12_count a1 M N (fun r2 M2 N2 => (-1 : Int32) = r2 ∧ INV M2 N2) := by
    unfold w_X12_count
    exact ⟨fun z => absurd z n0, fun z => absurd z n1, fun z => absurd z n2, fun z => absurd z n3, fun z => absurd z n4, fun z => absurd z n5, fun z => absurd z n6, fun z => absurd z n7, fun z => absurd z n8, fun z => absurd z n9, fun z => absurd z n10, fun z => absurd z n11, fun z => absurd z n12, fun z => absurd z n13, fun z => absurd z n14, fun z => absurd z n15, fun z => absurd z n16, fun _ _ _ _ _ _ _ _ _ _ _ _ _ _ _ _ _ => ⟨rfl, h00⟩⟩
  exact ⟨fun z => absurd z n0, fun z => absurd z n1, fun z => absurd z n2, fun z => absurd z n3, fun z => absurd z n4, fun z => absurd z n5, fun z => absurd z n6, fun z => absurd z n7, fun z => absurd z n8, fun z => absurd z n9, fun z => absurd z n10, fun z => absurd z n11, fun z => absurd z n12, fun z => absurd z n13, fun z => absurd z n14, fun z => absurd z n15, fun z => absurd z n16, fun _ _ _ _ _ _ _ _ _ _ _ _ _ _ _ _ _ => e⟩
end CO
