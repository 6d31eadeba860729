/-! ===== again: the class ===== -/
section AG
variable {M M1 : am_I} {N N1 : am_N} {b : Nat} {bk : Bk} {lg : Lg} {NN now : Nat} {wd : Nat → Nat} {a1 a2 a3 a4 : Int32} {post : am_I → am_N → Prop} {postI : Int32 → am_I → am_N → Prop} {cn : Cn}
theorem am_s_ob {α : Type} {M : am_C → Nat → α} {i j : Nat} {f : Nat → α} (h : i ≠ j) : am_s M (1, b, j) f (1, b, i) = M (1, b, i) := am_s_other M f (cell_ne h)
theorem am_u_ob {M : am_I} {i j k : Nat} {x : Int32} (h : i ≠ j) : am_u M (1, b, j) k x (1, b, i) = M (1, b, i) := am_u_o M k x (cell_ne h)
theorem am_ul_ob {N : am_N} {i j k : Nat} {x : Int64} (h : i ≠ j) : am_ul N (1, b, j) k x (1, b, i) = N (1, b, i) := am_ul_o N k x (cell_ne h)
theorem begF_576 {c : Nat} (h : c < 64) : begF (576 + c) = 1 := if_pos ⟨by omega, by omega⟩
theorem fill_o {α : Type} {M : am_C → Nat → α} {a c : am_C} {n : Nat} {v : α} (h : c ≠ a) : am_fill M a n v c = M c := am_s_other M _ h
theorem fill_in {α : Type} {M : am_C → Nat → α} {a : am_C} {n j : Nat} {v : α} (h : j < n) : am_fill M a n v a j = v := by
  unfold am_fill
  rw [am_s_same, if_pos h]
theorem b_ground (h : ∀ M1 N1, (∀ c : am_C, c ≠ (1, b, 2) → c ≠ (1, b, 3) → c ≠ (1, b, 4) → M1 c = M c) → (∀ c : am_C, c ≠ (1, b, 1) → N1 c = N c) → (∀ j, j < 64 → M1 (1, b, 2) j = 0 ∧ M1 (1, b, 3) j = 0 ∧ M1 (1, b, 4) j = 0) → N1 (1, b, 1) 4 = 0 → N1 (1, b, 1) 5 = 0 → post M1 N1) : w_X2_begin b M N post := by
  unfold w_X2_begin
  refine h _ _ (fun c h2 h3 h4 => by rw [fill_o h4, fill_o h3, fill_o h2]) (fun c h1 => by rw [am_ul_o _ _ _ h1, am_ul_o _ _ _ h1]) (fun j hj => ⟨?_, ?_, ?_⟩) ?_ ?_
  · rw [fill_o (cell_ne (by omega)), fill_o (cell_ne (by omega)), fill_in hj]
  · rw [fill_o (cell_ne (by omega)), fill_in hj]
  · rw [fill_in hj]
  · rw [am_ul_c, pk_uLn (by decide), am_ul_c, pk_uLs]
  · rw [am_ul_c, pk_uLs]
theorem b_plants (h : ∀ M1 N1, (∀ c : am_C, c ≠ (1, b, 10) → c ≠ (1, b, 11) → c ≠ (1, b, 6) → M1 c = M c) → (∀ c : am_C, c ≠ (1, b, 6) → N1 c = N c) → (∀ j, j < 64 → M1 (1, b, 10) j = 0 ∧ M1 (1, b, 11) j = 1) → M1 (1, b, 6) 10 = 0 → N1 (1, b, 6) 8 = 0 → N1 (1, b, 6) 9 = 0 → post M1 N1) : w_X6_begin b M N post := by
  unfold w_X6_begin
  refine h _ _ (fun c h2 h3 h4 => by rw [am_u_o _ _ _ h4, fill_o h3, fill_o h2]) (fun c h1 => by rw [am_ul_o _ _ _ h1, am_ul_o _ _ _ h1]) (fun j hj => ⟨?_, ?_⟩) ?_ ?_ ?_
  · rw [am_u_o _ _ _ (cell_ne (by omega)), fill_o (cell_ne (by omega)), fill_in hj]
  · rw [am_u_o _ _ _ (cell_ne (by omega)), fill_in hj]
  · rw [am_u_c, pk_us]
  · rw [am_ul_c, pk_uLn (by decide), am_ul_c, pk_uLs]
  · rw [am_ul_c, pk_uLs]
theorem b_fleet (h : ∀ M1 N1, (∀ c : am_C, c ≠ (1, b, 15) → c ≠ (1, b, 16) → c ≠ (1, b, 17) → c ≠ (1, b, 18) → M1 c = M c) → (∀ c : am_C, c ≠ (1, b, 19) → N1 c = N c) → (∀ j, j < 8 → M1 (1, b, 17) j = 6 ∧ M1 (1, b, 18) j = -1 ∧ N1 (1, b, 19) j = 0) → post M1 N1) : w_X1_begin b M N post := by
  unfold w_X1_begin
  refine h _ _ (fun c h1 h2 h3 h4 => by rw [fill_o h2, fill_o h1, fill_o h4, fill_o h3]) (fun c h1 => fill_o h1) (fun j hj => ⟨?_, ?_, ?_⟩)
  · rw [fill_o (cell_ne (by omega)), fill_o (cell_ne (by omega)), fill_o (cell_ne (by omega)), fill_in hj]
  · rw [fill_o (cell_ne (by omega)), fill_o (cell_ne (by omega)), fill_in hj]
  · rw [fill_in hj]
theorem c_begin (h0 : cn.c = 0 ∧ cn.w = 0) (h : ∀ M1 N1, (∀ c : am_C, ¬ (c.1 = 1 ∧ c.2.1 = b) → M1 c = M c ∧ N1 c = N c) → RelW b cn (butOf a1 a2) M1 N1 begF 0 0 → M1 (1, b, 0) 9 = nI 0 → M1 (1, b, 0) 12 = a1 → M1 (1, b, 0) 13 = a2 → post M1 N1) : w_X10_begin b a1 a2 M N post := by
  unfold w_X10_begin
  refine b_ground (fun M1 N1 o1 p1 g1 g2 g3 => b_plants (fun M2 N2 o2 p2 g4 g5 g6 g7 => b_fleet (fun M3 N3 o3 p3 g8 => ?_)))
  have hf : ∀ c : am_C, c ≠ (1, b, 20) → c ≠ (1, b, 21) → am_fill (am_fill M3 (1, b, 20) 60 3) (1, b, 21) 60 (-1) c = M3 c := fun c h1 h2 => by rw [fill_o h2, fill_o h1]
  have hf0 : ∀ j, j < 60 → am_fill (am_fill M3 (1, b, 20) 60 3) (1, b, 21) 60 (-1) (1, b, 20) j = 3 ∧ am_fill (am_fill M3 (1, b, 20) 60 3) (1, b, 21) 60 (-1) (1, b, 21) j = -1 := fun j hj => ⟨by rw [fill_o (cell_ne (by omega)), fill_in hj], fill_in hj⟩
  generalize am_fill (am_fill M3 (1, b, 20) 60 3) (1, b, 21) 60 (-1) = M4 at hf hf0 ⊢
  have ob : ∀ i, i ≠ 0 → i ≠ 22 → (am_u (am_u (am_u (am_u (am_u (am_u (am_u (am_u (am_u (am_u M4 (1, b, 22) 0 500) (1, b, 22) 1 200) (1, b, 22) 2 30) (1, b, 22) 3 3) (1, b, 0) 8 0) (1, b, 0) 9 0) (1, b, 0) 10 0) (1, b, 0) 11 0) (1, b, 0) 12 a1) (1, b, 0) 13 a2) (1, b, i) = M4 (1, b, i) := fun i h1 h2 => by
    rw [am_u_ob h1, am_u_ob h1, am_u_ob h1, am_u_ob h1, am_u_ob h1, am_u_ob h1, am_u_ob h2, am_u_ob h2, am_u_ob h2, am_u_ob h2]
  have o0 : (am_u (am_u (am_u (am_u (am_u (am_u (am_u (am_u (am_u (am_u M4 (1, b, 22) 0 500) (1, b, 22) 1 200) (1, b, 22) 2 30) (1, b, 22) 3 3) (1, b, 0) 8 0) (1, b, 0) 9 0) (1, b, 0) 10 0) (1, b, 0) 11 0) (1, b, 0) 12 a1) (1, b, 0) 13 a2) (1, b, 0) = upd (upd (upd (upd (upd (upd (M4 (1, b, 0)) 8 0) 9 0) 10 0) 11 0) 12 a1) 13 a2 := by
    rw [am_u_c, am_u_c, am_u_c, am_u_c, am_u_c, am_u_c, am_u_ob (by omega), am_u_ob (by omega), am_u_ob (by omega), am_u_ob (by omega)]
  have o22 : (am_u (am_u (am_u (am_u (am_u (am_u (am_u (am_u (am_u (am_u M4 (1, b, 22) 0 500) (1, b, 22) 1 200) (1, b, 22) 2 30) (1, b, 22) 3 3) (1, b, 0) 8 0) (1, b, 0) 9 0) (1, b, 0) 10 0) (1, b, 0) 11 0) (1, b, 0) 12 a1) (1, b, 0) 13 a2) (1, b, 22) = upd (upd (upd (upd (M4 (1, b, 22)) 0 500) 1 200) 2 30) 3 3 := by
    rw [am_u_ob (by omega), am_u_ob (by omega), am_u_ob (by omega), am_u_ob (by omega), am_u_ob (by omega), am_u_ob (by omega), am_u_c, am_u_c, am_u_c, am_u_c]
  have oo : ∀ c : am_C, ¬ (c.1 = 1 ∧ c.2.1 = b) → (am_u (am_u (am_u (am_u (am_u (am_u (am_u (am_u (am_u (am_u M4 (1, b, 22) 0 500) (1, b, 22) 1 200) (1, b, 22) 2 30) (1, b, 22) 3 3) (1, b, 0) 8 0) (1, b, 0) 9 0) (1, b, 0) 10 0) (1, b, 0) 11 0) (1, b, 0) 12 a1) (1, b, 0) 13 a2) c = M4 c := fun c hc => by
    have hne : ∀ i, c ≠ (1, b, i) := fun i e => hc (by subst e; exact ⟨rfl, rfl⟩)
    rw [am_u_o _ _ _ (hne _), am_u_o _ _ _ (hne _), am_u_o _ _ _ (hne _), am_u_o _ _ _ (hne _), am_u_o _ _ _ (hne _), am_u_o _ _ _ (hne _), am_u_o _ _ _ (hne _), am_u_o _ _ _ (hne _), am_u_o _ _ _ (hne _), am_u_o _ _ _ (hne _)]
  generalize (am_u (am_u (am_u (am_u (am_u (am_u (am_u (am_u (am_u (am_u M4 (1, b, 22) 0 500) (1, b, 22) 1 200) (1, b, 22) 2 30) (1, b, 22) 3 3) (1, b, 0) 8 0) (1, b, 0) 9 0) (1, b, 0) 10 0) (1, b, 0) 11 0) (1, b, 0) 12 a1) (1, b, 0) 13 a2) = M5 at ob o0 o22 oo ⊢
  -- rows of M5 in the terms of the stages
  have r4 : ∀ i, i ≠ 0 → i ≠ 22 → i ≠ 20 → i ≠ 21 → M5 (1, b, i) = M3 (1, b, i) := fun i h1 h2 h3 h4 => by rw [ob i h1 h2, hf _ (cell_ne h3) (cell_ne h4)]
  have r3 : ∀ i, i < 15 → i ≠ 0 → M5 (1, b, i) = M2 (1, b, i) := fun i h1 h2 => by rw [r4 i h2 (by omega) (by omega) (by omega), o3 _ (cell_ne (by omega)) (cell_ne (by omega)) (cell_ne (by omega)) (cell_ne (by omega))]
  have r2 : ∀ i, i < 5 → i ≠ 0 → M5 (1, b, i) = M1 (1, b, i) := fun i h1 h2 => by rw [r3 i (by omega) h2, o2 _ (cell_ne (by omega)) (cell_ne (by omega)) (cell_ne (by omega))]
  refine h M5 N3 (fun c hc => ?_) ?_ ?_ ?_ ?_
  · have hne : ∀ i, c ≠ (1, b, i) := fun i e => hc (by subst e; exact ⟨rfl, rfl⟩)
    exact ⟨by rw [oo c hc, hf c (hne _) (hne _), o3 c (hne _) (hne _) (hne _) (hne _), o2 c (hne _) (hne _) (hne _), o1 c (hne _) (hne _) (hne _)], by rw [p3 c (hne _), p2 c (hne _), p1 c (hne _)]⟩
  · refine ⟨⟨fun c hc => ?_, fun c hc => ?_, fun c hc => ?_⟩, ⟨fun c hc => ?_, fun c hc => ?_, fun c hc hs => ?_, fun c hc hs => ?_, fun c hc => ?_, fun c hc => ?_, ?_⟩, ⟨fun q hq => by omega, fun q hq => by omega, fun q hq _ => ?_, fun q hq _ => ?_⟩, ⟨fun w hw => by omega, fun w hw _ => ?_⟩, ⟨fun i hi => ?_, ?_, ?_, ?_, fun k i hk hi => ?_⟩, ?_, ?_⟩
    · rw [r2 2 (by omega) (by omega), (g1 c hc).1, begF_at (by omega) (by omega)]
    · rw [r2 3 (by omega) (by omega), (g1 c hc).2.1, begF_at (by omega) (by omega)]
    · rw [r2 4 (by omega) (by omega), (g1 c hc).2.2, begF_at (by omega) (by omega)]
    · rw [p3 _ (cell_ne (by omega)), g6, begF_at (by omega) (by omega), tb_0]
      exact ⟨fun z => absurd z (by decide), fun z => absurd z (by decide)⟩
    · rw [p3 _ (cell_ne (by omega)), g7, begF_at (by omega) (by omega), tb_0]
      exact ⟨fun z => absurd z (by decide), fun z => absurd z.1 (by decide)⟩
    · rw [begF_at (by omega) (by omega)] at hs
      exact absurd hs (by decide)
    · rw [begF_at (by omega) (by omega)] at hs
      exact absurd hs (by decide)
    · rw [r3 10 (by omega) (by omega), (g4 c hc).1, begF_at (by omega) (by omega)]
    · rw [r3 11 (by omega) (by omega), (g4 c hc).2, begF_at (i := 192 + c) (by omega) (by omega), if_neg (by decide), begF_576 hc]
    · rw [r3 6 (by omega) (by omega), g5]; rfl
    · rw [r4 17 (by omega) (by omega) (by omega) (by omega), (g8 q hq).1]
    · rw [r4 18 (by omega) (by omega) (by omega) (by omega), (g8 q hq).2.1, (g8 q hq).2.2]
      exact ⟨rfl, rfl⟩
    · rw [ob 20 (by omega) (by omega), ob 21 (by omega) (by omega), (hf0 w hw).1, (hf0 w hw).2]
      exact ⟨rfl, rfl⟩
    · rw [o22]
      have : i = 0 ∨ i = 1 ∨ i = 2 ∨ i = 3 := by omega
      rcases this with r | r | r | r <;> subst r <;> rfl
    · rw [o0]; rfl
    · rw [o0]; rfl
    · rw [o0]; rfl
    · rw [o0]; exact Iff.rfl
    · rw [p3 _ (cell_ne (by omega)), p2 _ (cell_ne (by omega)), g2]
    · rw [p3 _ (cell_ne (by omega)), p2 _ (cell_ne (by omega)), g3]
  · rw [o0]; rfl
  · rw [o0]; rfl
  · rw [o0]; rfl
/-- the ghost plays up to now -/
theorem c_ghost {n u : Nat} (P : IP bk lg NN now wd) (I : ICl bk lg NN now wd M N) (D : WdOK M (cnL lg NN) wd) (hu : u ≤ now) (e12 : M (1, 1, 0) 12 = a1) (e13 : M (1, 1, 0) 13 = a2) (G0 : PC 1 bk lg NN (butOf a1 a2) n u M N) {c : Nat} (hc : c < 64) (h : ∀ M1 N1, FrC M N M1 N1 → ICl bk lg NN now wd M1 N1 → postI (cellV wd (rep bk (butOf a1 a2) lg now NN).1 c a4) M1 N1) : w_X11_again_p50 postI (nI c) a4 M N := by
  unfold w_X11_again_p50
  rw [I.nowI P]
  refine c_playTo P.X I.K I.L P.nw hu G0 (fun M1 N1 n' F1 P1 hl => ?_)
  have hn' : n' = NN := by
    have h1 := P1.le
    by_cases z : n' = NN
    · exact z
    · have q1 := hl n' (Nat.le_refl _) (by omega)
      have q2 := P.up n' (by omega)
      omega
  subst hn'
  have g := (rep_good (but := butOf a1 a2) P.X.L P.X.B P.X.N now n' P.nw (Nat.le_refl _)).1
  have D1 : WdOK M1 (cnL lg n') wd := ⟨fun k hk => by rw [F1.tab]; exact D.c k hk, fun k hk => by rw [(F1.ref 0 22).1]; exact D.m k hk, D.z, D.b⟩
  refine c_fact P1.w g D1 hc (h M1 N1 (FrC.ofG F1) ?_)
  have e10 : ∀ i, M1 (1, 0, i) = M (1, 0, i) ∧ N1 (1, 0, i) = N (1, 0, i) := fun i => F1.1 (1, 0, i) (fun z => by simp at z) (fun z => by simp at z)
  refine ⟨I.K.cg (fun s i => F1.tab s i), fun k hk => by rw [F1.tab]; exact I.D k hk, I.L.cg (fun i => F1.tab 0 i), ⟨by rw [F1.tab]; exact I.mx.t0, by rw [F1.tab]; exact I.mx.t1, by rw [F1.tab]; exact I.mx.t2, by rw [F1.tab]; exact I.mx.t3, by rw [F1.tab]; exact I.mx.t4, by rw [F1.tab]; exact I.mx.t5⟩, I.cl.cg (fun i => (e10 i).1) (fun i => (e10 i).2) (fun s i => F1.tab s i), n', now, Nat.le_refl _, ?_⟩
  rw [F1.2.1, F1.2.2, e12, e13]
  exact P1
theorem c_again (P : IP bk lg NN now wd) (I : ICl bk lg NN now wd M N) (D : WdOK M (cnL lg NN) wd) {k j : Nat} (hk : k < 3) (hj : j < (if k = 0 then (cnL lg NN).r else if k = 1 then (cnL lg NN).c else (cnL lg NN).w)) {c : Nat} (hc : c < 64) (ha4 : 0 ≤ a4 ∧ a4 ≤ 10) (h : ∀ M1 N1, FrC M N M1 N1 → ICl bk lg NN now wd M1 N1 → postI (cellV wd (rep bk (butOf (nI k) (nI j)) lg now NN).1 c a4) M1 N1) : w_X11_again (nI k) (nI j) (nI c) a4 M N postI := by
  have main : w_X11_isCell (nI c) M N (fun zr4 zM5 zN6 => ((zr4 = 0 → postI (-1) zM5 zN6) ∧ (¬ zr4 = 0 → w_X11_within a4 0 10 zM5 zN6 (fun zr7 zM8 zN9 => ((¬ zr7 = 0 → w_X10_leavesOut 1 (nI k) (nI j) zM8 zN9 (fun zr10 zM11 zN12 => ((¬ zr10 = 0 → w_X11_again_p50 postI (nI c) a4 zM11 zN12) ∧ (zr10 = 0 → w_X10_begin 1 (nI k) (nI j) zM11 zN12 (fun zM13 zN14 => w_X11_again_p50 postI (nI c) a4 zM13 zN14))))) ∧ (zr7 = 0 → postI (-1) zM8 zN9)))))) := by
    refine eq_X11_isCell.mpr ?_
    rw [am_bt ⟨nI_pos' (by omega), nI_le (b := 63) (by omega) (by omega)⟩]
    refine ⟨fun z => absurd z (by decide), fun _ => eq_X11_within.mpr ?_⟩
    rw [am_bt ha4]
    refine ⟨fun _ => ?_, fun z => absurd z (by decide)⟩
    obtain ⟨n, u, hu, G0⟩ := I.gh
    have fresh : w_X10_begin 1 (nI k) (nI j) M N (fun zM13 zN14 => w_X11_again_p50 postI (nI c) a4 zM13 zN14) := by
      refine c_begin (cn := cnL lg 0) ⟨rfl, rfl⟩ (fun M1 N1 F1 Rb e9 e12 e13 => ?_)
      have eT : ∀ s i, M1 (2, s, i) = M (2, s, i) := fun s i => (F1 (2, s, i) (fun z => by simp at z)).1
      have e0 : ∀ i, M1 (1, 0, i) = M (1, 0, i) ∧ N1 (1, 0, i) = N (1, 0, i) := fun i => F1 (1, 0, i) (fun z => by simp at z)
      have G1 : PC 1 bk lg NN (butOf (nI k) (nI j)) 0 0 M1 N1 := ⟨⟨(I.K.cg eT).cut (cnL_le' (Nat.zero_le _)), I.cl.w.fb, Rb⟩, e9, Nat.zero_le _, fun i hi => absurd hi (Nat.not_lt_zero _), fun _ _ _ => Nat.zero_le _⟩
      have I1 : ICl bk lg NN now wd M1 N1 := by
        refine ⟨I.K.cg eT, fun k hk => by rw [eT]; exact I.D k hk, I.L.cg (fun i => eT 0 i), ⟨by rw [eT]; exact I.mx.t0, by rw [eT]; exact I.mx.t1, by rw [eT]; exact I.mx.t2, by rw [eT]; exact I.mx.t3, by rw [eT]; exact I.mx.t4, by rw [eT]; exact I.mx.t5⟩, I.cl.cg (fun i => (e0 i).1) (fun i => (e0 i).2) eT, 0, 0, Nat.zero_le _, ?_⟩
        rw [e12, e13]
        exact G1
      have D1 : WdOK M1 (cnL lg NN) wd := ⟨fun k hk => by rw [eT]; exact D.c k hk, fun k hk => by rw [(F1 (3, 0, 22) (fun z => by simp at z)).1]; exact D.m k hk, D.z, D.b⟩
      have FC : FrC M N M1 N1 := fun c hc => F1 c (fun z => by
        rcases hc with h1 | h1 | h1
        · omega
        · omega
        · omega)
      exact c_ghost P I1 D1 (Nat.zero_le _) e12 e13 G1 hc (fun M2 N2 F2 I2 => h M2 N2 (FC.tr F2) I2)
    unfold w_X10_leavesOut
    refine ⟨fun _ => ⟨fun z => absurd rfl z, fun _ => fresh⟩, fun z => ⟨fun _ => ⟨fun z => absurd rfl z, fun _ => fresh⟩, fun z2 => ⟨fun _ => ?_, fun z => absurd z (by decide)⟩⟩⟩
    rw [z, z2] at G0
    exact c_ghost P I D hu z z2 G0 hc h
  have yes : ∀ r : Int32, r = 1 → ((r = 0 → postI (-1) M N) ∧ (¬ r = 0 → w_X11_isCell (nI c) M N (fun zr4 zM5 zN6 => ((zr4 = 0 → postI (-1) zM5 zN6) ∧ (¬ zr4 = 0 → w_X11_within a4 0 10 zM5 zN6 (fun zr7 zM8 zN9 => ((¬ zr7 = 0 → w_X10_leavesOut 1 (nI k) (nI j) zM8 zN9 (fun zr10 zM11 zN12 => ((¬ zr10 = 0 → w_X11_again_p50 postI (nI c) a4 zM11 zN12) ∧ (zr10 = 0 → w_X10_begin 1 (nI k) (nI j) zM11 zN12 (fun zM13 zN14 => w_X11_again_p50 postI (nI c) a4 zM13 zN14))))) ∧ (zr7 = 0 → postI (-1) zM8 zN9)))))))) := by
    intro r hr
    subst hr
    exact ⟨fun z => absurd z (by decide), fun _ => main⟩
  unfold w_X11_again w_X11_canLeaveOut
  have k0 : nI k = 0 ↔ k = 0 := nI_eq (b := 0) (by omega) (by omega)
  have k1 : nI k = 1 ↔ k = 1 := nI_eq (b := 1) (by omega) (by omega)
  have k2 : nI k = 2 ↔ k = 2 := nI_eq (b := 2) (by omega) (by omega)
  rw [k0, k1, k2]
  refine ⟨fun e => ?_, fun e => ?_, fun e => ?_, fun n0 n1 n2 => by omega⟩
  · subst e
    exact c_has I.K.t1 (fun _ _ _ => ⟨Or.inr rfl, yes 1 rfl⟩) (fun z => absurd ⟨j, hj, rfl⟩ z)
  · subst e
    exact c_has I.K.t2 (fun _ _ _ => ⟨Or.inr rfl, yes 1 rfl⟩) (fun z => absurd ⟨j, hj, rfl⟩ z)
  · subst e
    exact c_has I.K.t3 (fun _ _ _ => ⟨Or.inr rfl, yes 1 rfl⟩) (fun z => absurd ⟨j, hj, rfl⟩ z)
end AG
