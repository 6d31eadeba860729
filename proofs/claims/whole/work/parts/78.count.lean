/-! ===== what is counted: both sides ===== -/
section Q4
variable {M : am_I} {N : am_N} {b : Nat} {bk : Bk} {cn full : Cn} {f : Nat → Int32} {fe lo : Int64} {W q c w n t wi : Nat} {a st : Int32} {post : Int32 → am_I → am_N → Prop} {but : Nat → Nat → Prop}
theorem qc_works (S : StC 0 bk cn cn but M N f fe lo) (T : StM bk cn but M N f fe lo) (hk : M (3, 0, 0) 12 = nI cn.w) (h3 : ¬ (3 : Int32) = st) : ∃ v, (∀ post, post v M N → w_X10_worksThatAre 0 st M N post) ∧ ∀ post, post v M N → w_X12_manyOf 1504 st M N post := by
  have h60 := S.fb.2.2.1
  refine ⟨cntI (fun w => f (1504 + w) = st) cn.w, fun post h => ?_, fun post h => ?_⟩
  · have e : cntI (fun w => M (1, 0, 20) w = st) 60 = cntI (fun w => f (1504 + w) = st) cn.w := by
      have e1 := cntI_more (P := fun w => M (1, 0, 20) w = st) (n := cn.w) (60 - cn.w) (fun i h1 h2 z => h3 (by rw [← (S.w.k.new i (by omega) h1).1]; exact z))
      rw [show cn.w + (60 - cn.w) = 60 by omega] at e1
      rw [e1]
      exact cntI_cg (fun i hi => by rw [(S.w.k.on i hi).1])
    rw [← e] at h
    unfold w_X10_worksThatAre
    refine ⟨61, ?_⟩
    have key : ∀ (j c : Nat), c + j = 60 → w_X10_worksThatAre_p4 0 post (j + 1) st (cntI (fun w => M (1, 0, 20) w = st) c) (nI c) M N := by
      intro j
      induction j with
      | zero =>
        intro c hc
        have hc' : c = 60 := by omega
        subst hc'
        rw [w_X10_worksThatAre_p4_s]
        unfold w_X10_worksThatAre_p4_b
        exact ⟨fun _ => h, fun z => absurd (nI_le (a := 60) (b := 60) (by omega) (by omega)) z⟩
      | succ j ih =>
        intro c hc
        have ih' := ih (c + 1) (by omega)
        rw [w_X10_worksThatAre_p4_s]
        unfold w_X10_worksThatAre_p4_b
        rw [nI_clamp (show c < 2 ^ 31 by omega), nI_1]
        refine ⟨fun z => absurd z (nI_ge (b := 60) (by omega) (by omega)), fun _ => ⟨vp_in_nI (by omega) (by omega), fun z => ?_, fun z => ?_⟩⟩
        · rw [cntI_f (P := fun w => M (1, 0, 20) w = st) z] at ih'; exact ih'
        · rw [cntI_t (P := fun w => M (1, 0, 20) w = st) z] at ih'; exact ih'
    exact key 60 0 (by omega)
  · unfold w_X12_manyOf
    refine ⟨cn.w + 1, ?_⟩
    have key : ∀ (j c : Nat), c + j = cn.w → w_X12_manyOf_p5 post (j + 1) 1504 st (cntI (fun w => f (1504 + w) = st) c) (nI c) M N := by
      intro j
      induction j with
      | zero =>
        intro c hc
        have hc' : c = cn.w := by omega
        subst hc'
        rw [w_X12_manyOf_p5_s]
        unfold w_X12_manyOf_p5_b
        rw [hk]
        exact ⟨fun _ => h, fun z => absurd (nI_le (Nat.le_refl _) (by omega)) z⟩
      | succ j ih =>
        intro c hc
        have ih' := ih (c + 1) (by omega)
        have j1 : (1504 + nI c).toNatClampNeg = 1504 + c := by rw [ix1504, nI_clamp (by omega)]
        have u1 : vp_in (1504 + nI c) 1635 := by rw [ix1504]; exact vp_in_nI (by omega) (by omega)
        rw [w_X12_manyOf_p5_s]
        unfold w_X12_manyOf_p5_b w_X12_manyOf_p33 w_X12_one
        rw [hk, j1, T.f, nI_1]
        refine ⟨fun z => absurd z (nI_ge (by omega) (by omega)), fun _ => ⟨u1, fun z => ⟨fun _ => ?_, fun y => absurd rfl y⟩, fun z => ⟨fun y => absurd y (by decide), fun _ => ?_⟩⟩⟩
        · rw [cntI_f (P := fun w => f (1504 + w) = st) z] at ih'; rw [Int32.add_zero]; exact ih'
        · rw [cntI_t (P := fun w => f (1504 + w) = st) z] at ih'; exact ih'
    exact key cn.w 0 (by omega)
theorem qc_stands (S : StC 0 bk cn cn but M N f fe lo) (T : StM bk cn but M N f fe lo) (G : GoodF W cn f) : ∃ v, (∀ post, post v M N → w_J13_bitCount_95d88 (N (1, 0, 6) 8) M N post) ∧ ∀ post, post v M N → ∃ n, w_X12_count_p143 post n 0 0 M N := by
  refine ⟨nI (popT (N (1, 0, 6) 8) 64), fun post h => eq_bitCount.mpr h, fun post h => ⟨65, ?_⟩⟩
  have key : ∀ (j c : Nat), c + j = 64 → w_X12_count_p143 post (j + 1) (nI (popT (N (1, 0, 6) 8) c)) (nI c) M N := by
    intro j
    induction j with
    | zero =>
      intro c hc
      have hc' : c = 64 := by omega
      subst hc'
      rw [w_X12_count_p143_s]
      unfold w_X12_count_p143_b
      exact ⟨fun _ => h, fun z => absurd (nI_le (a := 64) (b := 64) (by omega) (by omega)) z⟩
    | succ j ih =>
      intro c hc
      have j1 : (192 + nI c).toNatClampNeg = 192 + c := by rw [ix192, nI_clamp (by omega)]
      have u1 : vp_in (192 + nI c) 1635 := by rw [ix192]; exact vp_in_nI (by omega) (by omega)
      rw [w_X12_count_p143_s]
      unfold w_X12_count_p143_b
      rw [j1, T.f, nI_1, pop_nI (g := fun c => f (192 + c)) G.p.st S.w.p.st (by omega)]
      refine ⟨fun z => absurd z (nI_ge (b := 64) (by omega) (by omega)), fun _ => ⟨u1, fun v ev => ?_⟩⟩
      subst ev
      exact ih (c + 1) (by omega)
  exact key 64 0 (by omega)
theorem r_illMany (S : StC 0 bk cn full but M N f fe lo) {M1 : am_I} {N1 : am_N} (T : StM bk cn but M1 N1 f fe lo) (h : post (nI (popT (N (1, 0, 6) 9) 64)) M1 N1) : w_X12_illMany M1 N1 post := by
  unfold w_X12_illMany
  refine ⟨65, ?_⟩
  have key : ∀ (j c : Nat), c + j = 64 → w_X12_illMany_p4 post (j + 1) (nI (popT (N (1, 0, 6) 9) c)) (nI c) M1 N1 := by
    intro j
    induction j with
    | zero =>
      intro c hc
      have hc' : c = 64 := by omega
      subst hc'
      rw [w_X12_illMany_p4_s]
      unfold w_X12_illMany_p4_b
      exact ⟨fun _ => h, fun z => absurd (nI_le (a := 64) (b := 64) (by omega) (by omega)) z⟩
    | succ j ih =>
      intro c hc
      have ih' := ih (c + 1) (by omega)
      have j1 : (192 + nI c).toNatClampNeg = 192 + c := by rw [ix192, nI_clamp (by omega)]
      have u1 : vp_in (192 + nI c) 1635 := by rw [ix192]; exact vp_in_nI (by omega) (by omega)
      have j2 : (320 + nI c).toNatClampNeg = 320 + c := by rw [ix320, nI_clamp (by omega)]
      have u2 : vp_in (320 + nI c) 1635 := by rw [ix320]; exact vp_in_nI (by omega) (by omega)
      have hil := S.w.p.il c (by omega)
      have ep : popT (N (1, 0, 6) 9) (c + 1) = popT (N (1, 0, 6) 9) c + (if tb (N (1, 0, 6) 9) c = true then 1 else 0) := rfl
      rw [ep] at ih'
      rw [w_X12_illMany_p4_s]
      unfold w_X12_illMany_p4_b w_X12_illMany_p44 w_X12_one
      rw [j1, j2, T.f, nI_1]
      refine ⟨fun z => absurd z (nI_ge (b := 64) (by omega) (by omega)), fun _ => ⟨u1, fun z => ⟨fun _ => ?_, fun y => absurd rfl y⟩, fun z => ⟨u2, fun z2 => ⟨fun _ => ?_, fun y => absurd rfl y⟩, fun z2 => ⟨fun y => absurd y (by decide), fun _ => ?_⟩⟩⟩⟩
      · rw [if_neg (fun y => z (hil.mp y).1)] at ih'; rw [Int32.add_zero]; exact ih'
      · rw [if_neg (fun y => z2 (hil.mp y).2)] at ih'; rw [Int32.add_zero]; exact ih'
      · rw [if_pos (hil.mpr ⟨z, z2⟩)] at ih'; rw [nI_1]; exact ih'
  exact key 64 0 (by omega)
theorem qc_stuck (S : StC 0 bk cn cn but M N f fe lo) (T : StM bk cn but M N f fe lo) (hnb : ∀ q, ¬ but 1 q) (hk : M (3, 0, 0) 11 = nI cn.c) : ∃ v, (∀ post, post v M N → w_X1_cartsStuck 0 M N post) ∧ ∀ post, post v M N → ∃ n, w_X12_count_p215 post n 0 0 M N := by
  have h8 := S.fb.2.1
  refine ⟨cntI (fun q => f (976 + q) = 4) cn.c, fun post h => ?_, fun post h => ⟨cn.c + 1, ?_⟩⟩
  · have e : cntI (fun q => M (1, 0, 17) q = 4) 8 = cntI (fun q => f (976 + q) = 4) cn.c := by
      have e1 := cntI_more (P := fun q => M (1, 0, 17) q = 4) (n := cn.c) (8 - cn.c) (fun i h1 h2 z => by
        have z : M (1, 0, 17) i = 4 := z
        rw [S.w.c.off i (by omega) (Or.inl h1)] at z
        exact absurd z (by decide))
      rw [show cn.c + (8 - cn.c) = 8 by omega] at e1
      rw [e1]
      exact cntI_cg (fun i hi => by rw [(S.w.c.on i hi (hnb i)).2.2.1])
    rw [← e] at h
    unfold w_X1_cartsStuck
    refine ⟨9, ?_⟩
    have key : ∀ (j c : Nat), c + j = 8 → w_X1_cartsStuck_p4 0 post (j + 1) (cntI (fun q => M (1, 0, 17) q = 4) c) (nI c) M N := by
      intro j
      induction j with
      | zero =>
        intro c hc
        have hc' : c = 8 := by omega
        subst hc'
        rw [w_X1_cartsStuck_p4_s]
        unfold w_X1_cartsStuck_p4_b
        exact ⟨fun _ => h, fun z => absurd (nI_le (a := 8) (b := 8) (by omega) (by omega)) z⟩
      | succ j ih =>
        intro c hc
        have ih' := ih (c + 1) (by omega)
        rw [w_X1_cartsStuck_p4_s]
        unfold w_X1_cartsStuck_p4_b
        rw [nI_clamp (show c < 2 ^ 31 by omega), nI_1]
        refine ⟨fun z => absurd z (nI_ge (b := 8) (by omega) (by omega)), fun _ => ⟨vp_in_nI (by omega) (by omega), fun z => ?_, fun z => ?_⟩⟩
        · rw [cntI_f (P := fun q => M (1, 0, 17) q = 4) z] at ih'; exact ih'
        · rw [cntI_t (P := fun q => M (1, 0, 17) q = 4) z] at ih'; exact ih'
    exact key 8 0 (by omega)
  · have key : ∀ (j c : Nat), c + j = cn.c → w_X12_count_p215 post (j + 1) (cntI (fun q => f (976 + q) = 4) c) (nI c) M N := by
      intro j
      induction j with
      | zero =>
        intro c hc
        have hc' : c = cn.c := by omega
        subst hc'
        rw [w_X12_count_p215_s]
        unfold w_X12_count_p215_b
        rw [hk]
        exact ⟨fun _ => h, fun z => absurd (nI_le (Nat.le_refl _) (by omega)) z⟩
      | succ j ih =>
        intro c hc
        have ih' := ih (c + 1) (by omega)
        have j1 : (976 + nI c).toNatClampNeg = 976 + c := by rw [ix976, nI_clamp (by omega)]
        have u1 : vp_in (976 + nI c) 1635 := by rw [ix976]; exact vp_in_nI (by omega) (by omega)
        rw [w_X12_count_p215_s]
        unfold w_X12_count_p215_b w_X12_count_p243 w_X12_one
        rw [hk, j1, T.f, nI_1]
        refine ⟨fun z => absurd z (nI_ge (by omega) (by omega)), fun _ => ⟨u1, fun z => ⟨fun _ => ?_, fun y => absurd rfl y⟩, fun z => ⟨fun y => absurd y (by decide), fun _ => ?_⟩⟩⟩
        · rw [cntI_f (P := fun q => f (976 + q) = 4) z] at ih'; rw [Int32.add_zero]; exact ih'
        · rw [cntI_t (P := fun q => f (976 + q) = 4) z] at ih'; exact ih'
    exact key cn.c 0 (by omega)
def gotS (f : Nat → Int32) : Nat → Int32
  | 0 => 0
  | n + 1 => if f (192 + n) = 1 then gotS f n + f (448 + n) else gotS f n
theorem qc_got (S : StC 0 bk cn cn but M N f fe lo) (T : StM bk cn but M N f fe lo) : ∃ v, (∀ post, post v M N → w_X6_allGot 0 M N post) ∧ ∀ post, post v M N → ∃ n, w_X12_count_p258 post n 0 0 M N := by
  refine ⟨gotS f 64, fun post h => ?_, fun post h => ⟨65, ?_⟩⟩
  · unfold w_X6_allGot
    refine ⟨65, ?_⟩
    have key : ∀ (j c : Nat), c + j = 64 → w_X6_allGot_p4 0 post (j + 1) (gotS f c) (nI c) M N := by
      intro j
      induction j with
      | zero =>
        intro c hc
        have hc' : c = 64 := by omega
        subst hc'
        rw [w_X6_allGot_p4_s]
        unfold w_X6_allGot_p4_b
        exact ⟨fun _ => h, fun z => absurd (nI_le (a := 64) (b := 64) (by omega) (by omega)) z⟩
      | succ j ih =>
        intro c hc
        have ih' := ih (c + 1) (by omega)
        unfold gotS at ih'
        rw [w_X6_allGot_p4_s]
        unfold w_X6_allGot_p4_b
        rw [nI_1]
        refine ⟨fun z => absurd z (nI_ge (b := 64) (by omega) (by omega)), fun _ => sp_X6_standsOn (by omega) (fun z => ⟨fun y => absurd y (by decide), fun _ => ⟨vp_in_nI (by omega) (by omega), fun v ev => ?_⟩⟩) (fun z => ⟨fun _ => ?_, fun y => absurd rfl y⟩)⟩
        · have z1 := (S.w.p.st c (by omega)).mp z
          rw [nI_clamp (show c < 2 ^ 31 by omega), (S.w.p.sz c (by omega) z1).2.2] at ev
          subst ev
          rw [if_pos z1] at ih'
          exact ih'
        · rw [if_neg ((tb_st S (by omega)).mp z)] at ih'
          exact ih'
    exact key 64 0 (by omega)
  · have key : ∀ (j c : Nat), c + j = 64 → w_X12_count_p258 post (j + 1) (gotS f c) (nI c) M N := by
      intro j
      induction j with
      | zero =>
        intro c hc
        have hc' : c = 64 := by omega
        subst hc'
        rw [w_X12_count_p258_s]
        unfold w_X12_count_p258_b
        exact ⟨fun _ => h, fun z => absurd (nI_le (a := 64) (b := 64) (by omega) (by omega)) z⟩
      | succ j ih =>
        intro c hc
        have ih' := ih (c + 1) (by omega)
        unfold gotS at ih'
        have j1 : (192 + nI c).toNatClampNeg = 192 + c := by rw [ix192, nI_clamp (by omega)]
        have u1 : vp_in (192 + nI c) 1635 := by rw [ix192]; exact vp_in_nI (by omega) (by omega)
        have j2 : (448 + nI c).toNatClampNeg = 448 + c := by rw [ix448, nI_clamp (by omega)]
        have u2 : vp_in (448 + nI c) 1635 := by rw [ix448]; exact vp_in_nI (by omega) (by omega)
        rw [w_X12_count_p258_s]
        unfold w_X12_count_p258_b w_X12_count_p293
        rw [j1, j2, T.f, nI_1]
        refine ⟨fun z => absurd z (nI_ge (b := 64) (by omega) (by omega)), fun _ => ⟨u1, fun z => ?_, fun z => ⟨u2, ?_⟩⟩⟩
        · rw [if_neg z] at ih'; rw [Int32.add_zero]; exact ih'
        · rw [if_pos z] at ih'; exact ih'
    exact key 64 0 (by omega)
end Q4
