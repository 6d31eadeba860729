/-! ===== the call rules ===== -/
section CR
variable {t : Nat → Nat} {B n r : Nat} {ft : Int32} {PP : List SX} {SS : List (Nat × Nat)} {M M1 M2 : am_I} {N N1 : am_N} {a1 : Int32}
theorem c_take {a b : Nat} {post : am_I → am_N → Prop} (ha : a ≤ 548) (h : ∀ M1, (∀ c : am_C, c ≠ (0, 0, 12) → c ≠ (0, 0, 13) → M1 c = M c) → M1 (0, 0, 12) 2 = nI a → M1 (0, 0, 12) 3 = nI b → (∀ i, i < a → M1 (0, 0, 13) i = M (0, 0, 11) i) → post M1 N) : w_X3_takeOver (nI a) (nI b) M N post := by
  unfold w_X3_takeOver
  have e548 : (548 : Int32) = nI 548 := rfl
  rw [e548]
  refine c_min (a := 548) (b := 548) (Nat.le_refl _) (by omega) (c_min (a := a) (b := 548) ha (by omega) ?_)
  have f2 : am_u M (0, 0, 12) 2 (nI a) (0, 0, 12) 2 = nI a := by rw [am_u_c, pk_us]
  rw [f2, nI_clamp (show a < 2 ^ 31 by omega)]
  refine ⟨⟨by decide, by decide, nI_pos (by omega), ?_, ?_⟩, h _ (fun c q1 q2 => ?_) ?_ ?_ (fun i hi => ?_)⟩
  · show 0 + a ≤ 548; omega
  · show 0 + a ≤ 548; omega
  · rw [am_u_o _ _ _ q1, am_s_other _ _ q2, am_u_o _ _ _ q1]
  · rw [am_u_c, pk_un (by decide), am_s_other _ _ (by simp), am_u_c, pk_us]
  · rw [am_u_c, pk_us]
  · rw [am_u_o _ _ _ (by simp), am_s_same]
    have : va_cpy (am_u M (0, 0, 12) 2 (nI a) (0, 0, 11)) (am_u M (0, 0, 12) 2 (nI a) (0, 0, 13)) 0 0 a i = am_u M (0, 0, 12) 2 (nI a) (0, 0, 11) (0 + (i - 0)) := pk_cpy_in (Nat.zero_le _) (by omega)
    rw [Nat.sub_zero, Nat.zero_add, am_u_o _ _ _ (by simp)] at this
    exact this
theorem call_rules (h : INVR M) : w_X11_rules a1 M N (fun r M1 N1 => w_X12_rules a1 M1 N1 (fun r2 M2 N2 => r = r2 ∧ FrY M N M2 N2 ∧ INVR M2)) := by
  obtain ⟨t, B, r, ft, PP, SS, I⟩ := h
  have hB := I.b
  have hr8 := I.r8
  unfold w_X11_rules
  rw [I.bc, I.rc]
  have bad : ∀ v : Int32, v = -2 → (a1 < 0 ∨ nI B < a1) → w_X12_rules a1 M N (fun r2 M2 N2 => v = r2 ∧ FrY M N M2 N2 ∧ INVR M2) := by
    intro v hv hb
    unfold w_X12_rules w_X12_isIn
    rw [I.bm]
    have fin : ((¬ (0 : Int32) = 0 → ((¬ (M (3, 0, 0) 45) = 8 → ∃ n, w_X12_rules_p29 (fun r2 M2 N2 => v = r2 ∧ FrY M N M2 N2 ∧ INVR M2) n a1 0 M N) ∧ ((M (3, 0, 0) 45) = 8 → v = -3 ∧ FrY M N M N ∧ INVR M))) ∧ ((0 : Int32) = 0 → v = -2 ∧ FrY M N M N ∧ INVR M)) := ⟨fun z => absurd rfl z, fun _ => ⟨hv, FrY.rf, t, B, r, ft, PP, SS, I⟩⟩
    rcases hb with hb | hb
    · exact ⟨fun _ => fin, fun z => absurd hb z⟩
    · exact ⟨fun _ => fin, fun _ => ⟨fun _ => fin, fun z => absurd hb z⟩⟩
  refine ⟨fun z => bad _ rfl (Or.inl z), fun z => ?_⟩
  obtain ⟨n, hn31, en⟩ := nI_of z
  subst en
  refine ⟨fun z1 => ?_, fun z1 => bad _ rfl (Or.inr ?_)⟩
  · have hn : n ≤ B := (nI_leI hn31 (by omega)).mp z1
    refine ⟨fun z2 => ?_, fun z2 => ?_⟩
    · have hr : r < 8 := (nI_ltI (b := 8) (by omega) (by omega)).mp z2
      have hb := NB_ex (t := t) (n := n) (a := 0) (Nat.zero_le _)
      obtain ⟨hk, hc⟩ := TK_0 hb
      generalize runE t n 0 (n - 0) 0 = p at hb hk hc
      have c5 := (cs_501 (t := t) (show n ≤ 500 by omega) (Nat.le_refl n)).1
      obtain ⟨ok, q, QQ, R⟩ := read_rest (show n ≤ 500 by omega) 24 p [] hk rfl (by show 0 + (cs t n - cs t p) ≤ 500 + 0; omega) (by show 0 + (cs t n - cs t p) ≤ 500; omega) (fun x hx => absurd hx List.not_mem_nil)
      have hqn := R.tk.1
      have T : TpF t B M := ⟨I.bc, fun i hi => ⟨(I.tp i hi).1, (I.tp i hi).2.1⟩⟩
      refine c_read T hB hn hk hc R (fun M1 F1 e4 h1 => ?_)
      have f9 : am_u M1 (0, 0, 0) 9 (rdV ok q) (0, 0, 0) 9 = rdV ok q := by rw [am_u_c, pk_us]
      have f8 : am_u M1 (0, 0, 0) 9 (rdV ok q) (0, 0, 0) 8 = nI r := by rw [am_u_c, pk_un (by decide), F1 _ (by simp) (by simp) (by simp) (by simp)]; exact I.rc
      have fc : ∀ c : am_C, c ≠ (0, 0, 0) → am_u M1 (0, 0, 0) 9 (rdV ok q) c = M1 c := fun c q => am_u_o _ _ _ q
      have f0 : ∀ j, j ≠ 9 → am_u M1 (0, 0, 0) 9 (rdV ok q) (0, 0, 0) j = M1 (0, 0, 0) j := fun j hj => by rw [am_u_c, pk_un hj]
      generalize am_u M1 (0, 0, 0) 9 (rdV ok q) = M2 at f9 f8 fc f0 ⊢
      rw [f9]
      cases ok with
      | true =>
        obtain ⟨l1, l2, l3, l4⟩ := R.ln rfl
        obtain ⟨S1, e8⟩ := h1 rfl
        refine ⟨fun _ => ?_, fun z => absurd rfl z⟩
        rw [fc _ (by simp), S1.z, e8]
        refine c_take l3 (fun M3 F3 g2 g3 g4 => ?_)
        have p8 : M3 (0, 0, 0) 8 + 1 = nI (r + 1) := by rw [F3 _ (by simp) (by simp), f8, nI_1]
        have k8 : am_u M3 (0, 0, 0) 8 (M3 (0, 0, 0) 8 + 1) (0, 0, 0) 8 = nI (r + 1) := by rw [am_u_c, pk_us]; exact p8
        have k9 : am_u M3 (0, 0, 0) 8 (M3 (0, 0, 0) 8 + 1) (0, 0, 0) 9 = -1 := by rw [am_u_c, pk_un (by decide), F3 _ (by simp) (by simp)]; exact f9
        have kc : ∀ c : am_C, c ≠ (0, 0, 0) → am_u M3 (0, 0, 0) 8 (M3 (0, 0, 0) 8 + 1) c = M3 c := fun c q => am_u_o _ _ _ q
        generalize am_u M3 (0, 0, 0) 8 (M3 (0, 0, 0) 8 + 1) = M4 at k8 k9 kc ⊢
        rw [k8, nI_pred]
        have kk : ∀ c : am_C, c ≠ (0, 0, 0) → c ≠ (0, 0, 7) → c ≠ (0, 0, 9) → c ≠ (0, 0, 10) → c ≠ (0, 0, 11) → c ≠ (0, 0, 12) → c ≠ (0, 0, 13) → M4 c = M c := fun c q1 q2 q3 q4 q5 q6 q7 => by
          rw [kc c q1, F3 c q6 q7, fc c q1, F1 c q2 q3 q4 q5]
        have k3 : ∀ i, M4 (3, 0, i) = M (3, 0, i) := fun i => kk _ (by simp) (by simp) (by simp) (by simp) (by simp) (by simp) (by simp)
        refine r_rules (t := t) (B := B) (SS := SS) ⟨by rw [k3]; exact I.bm, fun i hi => ⟨(I.tp i hi).1, by rw [k3]; exact (I.tp i hi).2.2⟩⟩ hB hn hr (by rw [k3]; exact I.rm) (by rw [k3]; exact I.sz) I.sl (I.sp.cg (k3 _) (k3 _)) hb hk R (fun M5 F5 e47 P5 h5 _ => ?_)
        obtain ⟨d46, dP, d34, dg⟩ := h5 rfl
        unfold w_X12_rules_p174 w_X12_rules_p187
        have m45 : am_u M5 (3, 0, 0) 51 (-1) (3, 0, 0) 45 + 1 = nI (r + 1) := by rw [am_u_c, pk_un (by decide), F5.2.1 45 (by decide), k3, I.rm, nI_1]
        refine ⟨fun z => absurd z (by decide), fun _ => ⟨fun _ => ?_, fun z => absurd z (by decide)⟩⟩
        rw [m45]
        have n45 : am_u (am_u M5 (3, 0, 0) 51 (-1)) (3, 0, 0) 45 (nI (r + 1)) (3, 0, 0) 45 = nI (r + 1) := by rw [am_u_c, pk_us]
        have n51 : am_u (am_u M5 (3, 0, 0) 51 (-1)) (3, 0, 0) 45 (nI (r + 1)) (3, 0, 0) 51 = -1 := by rw [am_u_c, pk_un (by decide), am_u_c, pk_us]
        have nj : ∀ j, j ≠ 45 → j ≠ 51 → am_u (am_u M5 (3, 0, 0) 51 (-1)) (3, 0, 0) 45 (nI (r + 1)) (3, 0, 0) j = M5 (3, 0, 0) j := fun j q1 q2 => by rw [am_u_c, pk_un q1, am_u_c, pk_un q2]
        have nc : ∀ c : am_C, c ≠ (3, 0, 0) → am_u (am_u M5 (3, 0, 0) 51 (-1)) (3, 0, 0) 45 (nI (r + 1)) c = M5 c := fun c q => by rw [am_u_o _ _ _ q, am_u_o _ _ _ q]
        generalize am_u (am_u M5 (3, 0, 0) 51 (-1)) (3, 0, 0) 45 (nI (r + 1)) = M6 at n45 n51 nj nc ⊢
        rw [n45, nI_pred]
        have t0 : ∀ c : am_C, c.1 = 0 → M6 c = M4 c := fun c hc => by
          rw [nc c (fun w => by rw [w] at hc; exact absurd hc (by decide)), F5.1 c (fun w => absurd (w.1.symm.trans hc) (by decide))]
        refine ⟨rfl, ⟨fun c q1 q2 => ⟨?_, rfl⟩, fun j hj => ?_, rfl⟩, t, 0, r + 1, -1, QQ, SS ++ QQ.flatMap stS, ?_⟩
        · have w0 : ∀ i : Nat, (i = 0 ∨ 7 ≤ i) → c ≠ (0, 0, i) := fun i hi e => q1 (by rw [e]; exact ⟨rfl, hi⟩)
          rw [nc c (fun w => q2 (by rw [w]; exact ⟨rfl, Or.inl rfl⟩)), F5.1 c (fun w => q2 ⟨w.1, by have := w.2; omega⟩)]
          exact kk c (w0 0 (by decide)) (w0 7 (by decide)) (w0 9 (by decide)) (w0 10 (by decide)) (w0 11 (by decide)) (w0 12 (by decide)) (w0 13 (by decide))
        · rw [nj j (by omega) (by omega), F5.2.1 j (by omega), k3]
        · refine ⟨by omega, fun i hi => absurd hi (Nat.not_lt_zero _), ?_, ?_, by omega, ?_, n45, ?_, n51, ?_, ?_, dP.cg (nc _ (by simp)) (nc _ (by simp)), l1, fun z => by omega, l4, fun _ => ⟨dg.rows (a := QQ.length) (Nat.le_refl _) (fun j _ => ?_), ?_⟩, l3, ?_, ?_, fun i hi => ?_⟩
          · rw [t0 _ rfl, kc _ (by simp), F3 _ (by simp) (by simp), fc _ (by simp)]; exact e4
          · rw [nj 47 (by decide) (by decide)]; exact e47
          · rw [t0 _ rfl]; exact k8
          · rw [t0 _ rfl]; exact k9
          · rw [nj 46 (by decide) (by decide)]; exact d46
          · have := I.sl
            rw [List.length_append]; omega
          · rw [nc (3, 0, 35) (by simp), nc (3, 0, 36) (by simp), nc (3, 0, 37) (by simp), nc (3, 0, 38) (by simp)]
            exact ⟨rfl, rfl, rfl, rfl⟩
          · rw [nc (3, 0, 34) (by simp)]; exact d34
          · rw [t0 _ rfl, kc _ (by simp)]; exact g2
          · rw [t0 _ rfl, kc _ (by simp)]; exact g3
          · rw [t0 _ rfl, kc _ (by simp), g4 i hi, fc _ (by simp)]; exact S1.l i hi
      | false =>
        have hq1 : ¬ rdV false q = -1 := fun w => absurd (show (0 : Int32) ≤ -1 by rw [← w]; exact nI_le (a := 0) (b := q) (by omega) (by omega)) (by decide)
        refine ⟨fun w => absurd w hq1, fun _ => ?_⟩
        have kk : ∀ c : am_C, c ≠ (0, 0, 0) → c ≠ (0, 0, 7) → c ≠ (0, 0, 9) → c ≠ (0, 0, 10) → c ≠ (0, 0, 11) → M2 c = M c := fun c q1 q2 q3 q4 q5 => by
          rw [fc c q1, F1 c q2 q3 q4 q5]
        have k3 : ∀ i, M2 (3, 0, i) = M (3, 0, i) := fun i => kk _ (by simp) (by simp) (by simp) (by simp) (by simp)
        refine r_rules (t := t) (B := B) (SS := SS) ⟨by rw [k3]; exact I.bm, fun i hi => ⟨(I.tp i hi).1, by rw [k3]; exact (I.tp i hi).2.2⟩⟩ hB hn hr (by rw [k3]; exact I.rm) (by rw [k3]; exact I.sz) I.sl (I.sp.cg (k3 _) (k3 _)) hb hk R (fun M5 F5 e47 P5 _ h6 => ?_)
        unfold w_X12_rules_p174 w_X12_rules_p187
        rw [h6 rfl]
        refine ⟨fun _ => ⟨fun z => absurd rfl z, fun _ => ?_⟩, fun z => absurd rfl z⟩
        have n46 : am_u (am_u M5 (3, 0, 0) 51 (nI q)) (3, 0, 0) 46 (nI SS.length) (3, 0, 0) 46 = nI SS.length := by rw [am_u_c, pk_us]
        have n51 : am_u (am_u M5 (3, 0, 0) 51 (nI q)) (3, 0, 0) 46 (nI SS.length) (3, 0, 0) 51 = nI q := by rw [am_u_c, pk_un (by decide), am_u_c, pk_us]
        have nj : ∀ j, j ≠ 46 → j ≠ 51 → am_u (am_u M5 (3, 0, 0) 51 (nI q)) (3, 0, 0) 46 (nI SS.length) (3, 0, 0) j = M5 (3, 0, 0) j := fun j q1 q2 => by rw [am_u_c, pk_un q1, am_u_c, pk_un q2]
        have nc : ∀ c : am_C, c ≠ (3, 0, 0) → am_u (am_u M5 (3, 0, 0) 51 (nI q)) (3, 0, 0) 46 (nI SS.length) c = M5 c := fun c q => by rw [am_u_o _ _ _ q, am_u_o _ _ _ q]
        generalize am_u (am_u M5 (3, 0, 0) 51 (nI q)) (3, 0, 0) 46 (nI SS.length) = M6 at n46 n51 nj nc ⊢
        have t0 : ∀ c : am_C, c.1 = 0 → M6 c = M2 c := fun c hc => by
          rw [nc c (fun w => by rw [w] at hc; exact absurd hc (by decide)), F5.1 c (fun w => absurd (w.1.symm.trans hc) (by decide))]
        refine ⟨rfl, ⟨fun c q1 q2 => ⟨?_, rfl⟩, fun j hj => ?_, rfl⟩, t, 0, r, nI q, PP, SS, ?_⟩
        · have w0 : ∀ i : Nat, (i = 0 ∨ 7 ≤ i) → c ≠ (0, 0, i) := fun i hi e => q1 (by rw [e]; exact ⟨rfl, hi⟩)
          rw [nc c (fun w => q2 (by rw [w]; exact ⟨rfl, Or.inl rfl⟩)), F5.1 c (fun w => q2 ⟨w.1, by have := w.2; omega⟩)]
          exact kk c (w0 0 (by decide)) (w0 7 (by decide)) (w0 9 (by decide)) (w0 10 (by decide)) (w0 11 (by decide))
        · rw [nj j (by omega) (by omega), F5.2.1 j (by omega), k3]
        · refine ⟨by omega, fun i hi => absurd hi (Nat.not_lt_zero _), ?_, ?_, I.r8, ?_, ?_, ?_, n51, n46, I.sl, P5.cg (nc _ (by simp)) (nc _ (by simp)), I.pl, I.p0, I.ok, fun hr0 => ⟨(I.pg hr0).1.rows (a := PP.length) (Nat.le_refl _) (fun j hj => ?_), ?_⟩, I.cl, ?_, ?_, fun i hi => ?_⟩
          · rw [t0 _ rfl, fc _ (by simp)]; exact e4
          · rw [nj 47 (by decide) (by decide)]; exact e47
          · rw [t0 _ rfl]; exact f8
          · rw [nj 45 (by decide) (by decide), F5.2.1 45 (by decide), k3]; exact I.rm
          · rw [t0 _ rfl]; exact f9
          · have := I.pl
            rw [nc (3, 0, 35) (by simp), nc (3, 0, 36) (by simp), nc (3, 0, 37) (by simp), nc (3, 0, 38) (by simp)]
            obtain ⟨d1, d2, d3, d4⟩ := F5.2.2.2 j (by omega)
            rw [d1, d2, d3, d4, k3, k3, k3, k3]
            exact ⟨rfl, rfl, rfl, rfl⟩
          · rw [nc (3, 0, 34) (by simp), F5.2.2.1 (r - 1) (by omega), k3]; exact (I.pg hr0).2
          · rw [t0 _ rfl, kk _ (by simp) (by simp) (by simp) (by simp) (by simp)]; exact I.cz
          · rw [t0 _ rfl, kk _ (by simp) (by simp) (by simp) (by simp) (by simp)]; exact I.cn
          · rw [t0 _ rfl, kk _ (by simp) (by simp) (by simp) (by simp) (by simp)]; exact I.cd i hi
    · have hr : r = 8 := by
        have : ¬ r < 8 := fun w => z2 (nI_lt (b := 8) w (by omega))
        omega
      show w_X12_rules (nI n) M N _
      unfold w_X12_rules w_X12_isIn
      rw [I.bm]
      have q8 : M (3, 0, 0) 45 = (8 : Int32) := by rw [I.rm, hr]; rfl
      exact ⟨fun w => absurd w z, fun _ => ⟨fun w => absurd w (nI_nlt hn (by omega)), fun _ => ⟨fun _ => ⟨fun w => absurd q8 w, fun _ => ⟨rfl, FrY.rf, t, B, r, ft, PP, SS, I⟩⟩, fun w => absurd w (by decide)⟩⟩⟩
  · refine nI_lt (Nat.lt_of_not_le fun w => z1 (nI_le w (by omega))) hn31
end CR
