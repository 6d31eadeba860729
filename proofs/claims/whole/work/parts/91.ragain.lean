/-! ===== again: the reference, and both ===== -/
section AR
variable {M M1 : am_I} {N N1 : am_N} {bk : Bk} {lg : Lg} {NN now : Nat} {wd : Nat → Nat} {a1 a2 a3 a4 : Int32} {post : am_I → am_N → Prop} {postI : Int32 → am_I → am_N → Prop} {but : Nat → Nat → Prop}
theorem r_begins (h : post (am_s M (3, 0, 1) (fun i => if i < 1635 then begF i else M (3, 0, 1) i)) (am_ul (am_ul N (3, 0, 0) 2 0) (3, 0, 0) 3 0)) : w_X12_begins M N post := by
  unfold w_X12_begins
  refine ⟨1636, ?_⟩
  have key : ∀ (j k : Nat), k + j = 1635 → w_X12_begins_p2 post (j + 1) (nI k) (am_s M (3, 0, 1) (fun i => if i < k then 0 else M (3, 0, 1) i)) N := by
    intro j
    induction j with
    | zero =>
      intro k hk
      have hk' : k = 1635 := by omega
      subst hk'
      rw [w_X12_begins_p2_s]
      unfold w_X12_begins_p2_b
      refine ⟨fun _ => ⟨65, ?_⟩, fun z => absurd (nI_le (a := 1635) (b := 1635) (by omega) (by omega)) z⟩
      have key2 : ∀ (j c : Nat), c + j = 64 → w_X12_begins_p24 post (j + 1) (nI c) (am_s M (3, 0, 1) (fun i => if 576 ≤ i ∧ i < 576 + c then 1 else if i < 1635 then 0 else M (3, 0, 1) i)) N := by
        intro j
        induction j with
        | zero =>
          intro c hc
          have hc' : c = 64 := by omega
          subst hc'
          rw [w_X12_begins_p24_s]
          unfold w_X12_begins_p24_b
          refine ⟨fun _ => ?_, fun z => absurd (nI_le (a := 64) (b := 64) (by omega) (by omega)) z⟩
          rw [am_u_s, am_u_s, am_u_s, am_u_s]
          have e : upd (upd (upd (upd (fun i => if 576 ≤ i ∧ i < 576 + 64 then (1 : Int32) else if i < 1635 then 0 else M (3, 0, 1) i) 1626 500) 1627 200) 1628 30) 1629 3 = (fun i => if i < 1635 then begF i else M (3, 0, 1) i) := by
            funext i
            by_cases e1 : i = 1629
            · subst e1; rfl
            by_cases e2 : i = 1628
            · subst e2; rfl
            by_cases e3 : i = 1627
            · subst e3; rfl
            by_cases e4 : i = 1626
            · subst e4; rfl
            rw [pk_un e1, pk_un e2, pk_un e3, pk_un e4]
            unfold begF
            by_cases e5 : i < 1635
            · rw [if_pos e5, if_pos e5, if_neg e4, if_neg e3, if_neg e2, if_neg e1]
            · rw [if_neg e5, if_neg e5, if_neg (by omega)]
          rw [e]
          exact h
        | succ j ih =>
          intro c hc
          have j1 : (576 + nI c).toNatClampNeg = 576 + c := by rw [ix576, nI_clamp (by omega)]
          have u1 : vp_in (576 + nI c) 1635 := by rw [ix576]; exact vp_in_nI (by omega) (by omega)
          rw [w_X12_begins_p24_s]
          unfold w_X12_begins_p24_b
          rw [j1, nI_1]
          refine ⟨fun z => absurd z (nI_ge (b := 64) (by omega) (by omega)), fun _ => ⟨u1, ?_⟩⟩
          rw [am_u_s]
          have ih' := ih (c + 1) (by omega)
          have e : upd (fun i => if 576 ≤ i ∧ i < 576 + c then (1 : Int32) else if i < 1635 then 0 else M (3, 0, 1) i) (576 + c) 1 = (fun i => if 576 ≤ i ∧ i < 576 + (c + 1) then 1 else if i < 1635 then 0 else M (3, 0, 1) i) := by
            funext i
            by_cases e1 : i = 576 + c
            · subst e1; rw [pk_us, if_pos (by omega)]
            · rw [pk_un e1]
              by_cases e2 : 576 ≤ i ∧ i < 576 + c
              · rw [if_pos e2, if_pos (by omega)]
              · rw [if_neg e2, if_neg (show ¬ (576 ≤ i ∧ i < 576 + (c + 1)) by omega)]
          rw [e]
          exact ih'
      have k0 := key2 64 0 (by omega)
      have e : (fun i => if 576 ≤ i ∧ i < 576 + 0 then (1 : Int32) else if i < 1635 then 0 else M (3, 0, 1) i) = (fun i => if i < 1635 then 0 else M (3, 0, 1) i) := by
        funext i
        rw [if_neg (by omega)]
      rw [e] at k0
      exact k0
    | succ j ih =>
      intro k hk
      rw [w_X12_begins_p2_s]
      unfold w_X12_begins_p2_b
      rw [nI_clamp (show k < 2 ^ 31 by omega), nI_1, am_u_s]
      refine ⟨fun z => absurd z (nI_ge (b := 1635) (by omega) (by omega)), fun _ => ⟨vp_in_nI (by omega) (by omega), ?_⟩⟩
      have ih' := ih (k + 1) (by omega)
      have e : upd (fun i => if i < k then (0 : Int32) else M (3, 0, 1) i) k 0 = (fun i => if i < k + 1 then 0 else M (3, 0, 1) i) := by
        funext i
        by_cases e1 : i = k
        · subst e1; rw [pk_us, if_pos (by omega)]
        · rw [pk_un e1]
          by_cases e2 : i < k
          · rw [if_pos e2, if_pos (by omega)]
          · rw [if_neg e2, if_neg (by omega)]
      rw [e]
      exact ih'
  have k0 := key 1635 0 (by omega)
  have e : (fun i => if i < 0 then (0 : Int32) else M (3, 0, 1) i) = M (3, 0, 1) := by
    funext i
    rw [if_neg (by omega)]
  rw [e, am_s_id] at k0
  exact k0
/-- the replay of the reference: from the beginning to now -/
theorem r_replay (X : BKX bk lg NN) (hnow : now ≤ 719) (hup : ∀ i, i < NN → lg i 0 ≤ now) (K : BkM M bk (cnL lg NN)) (L : LgM M lg NN) (ct : M (3, 0, 0) 4 = nI NN) (ea : M (3, 0, 2) 1624 = nI now) {l3 l4 : Int32} {l6 l8 : Int64} (P0 : PM bk lg NN but 0 0 M N)
    (h : ∀ M1 N1, FrM M N M1 N1 → PM bk lg NN but NN now M1 N1 → w_X12_cellOf l3 l4 M1 N1 (fun zr1 zM2 zN3 => ∃ n, w_X12_again_p211 postI n l6 l8 zr1 0 (am_u zM2 (3, 0, 0) 30 (-1)) zN3)) : ∃ n, w_X12_again_p133 postI n l3 l4 l6 l8 0 0 M N := by
  have hN := X.N
  refine ⟨now + 2, ?_⟩
  -- the inner loop
  have inner : ∀ (hr : Nat), hr ≤ now → ∀ zk133 : Int32 → Int32 → Int64 → Int64 → Int32 → Int32 → am_I → am_N → Prop, (∀ M2 N2 n2, FrM M N M2 N2 → PM bk lg NN but n2 hr M2 N2 → (∀ i, n2 ≤ i → i < NN → hr + 1 ≤ lg i 0) → zk133 l3 l4 l6 l8 (nI n2) (nI (hr + 1)) M2 N2) → ∀ (j n : Nat), n + j = NN → ∀ M1 N1, FrM M N M1 N1 → PM bk lg NN but n hr M1 N1 → w_X12_again_p155 postI zk133 (j + 1) l3 l4 l6 l8 (nI n) (nI hr) M1 N1 := by
    intro hr hhr zk133 hz j
    induction j with
    | zero =>
      intro n hn M1 N1 F1 P1
      have e0 : M1 (3, 0, 0) = M (3, 0, 0) := F1.row (by decide) (by omega)
      rw [w_X12_again_p155_s]
      unfold w_X12_again_p155_b
      rw [e0, ct, nI_1]
      exact ⟨fun _ => hz M1 N1 n F1 P1 (fun i h1 h2 => by omega), fun z => absurd (nI_le (by omega) (by omega)) z⟩
    | succ j ih =>
      intro n hn M1 N1 F1 P1
      have hn' : n < NN := by omega
      have hh := X.H n hn'
      have e0 : M1 (3, 0, 0) = M (3, 0, 0) := F1.row (by decide) (by omega)
      have L1 := L.cg F1
      have K1 := K.cg F1
      rw [w_X12_again_p155_s]
      unfold w_X12_again_p155_b
      rw [e0, ct, nI_1, nI_1, nI_clamp (show n < 2 ^ 31 by omega), L1.h n hn', nI_eq (by omega) (by omega)]
      refine ⟨fun z => absurd z (nI_ge (by omega) (by omega)), fun _ => ⟨vp_in_nI (by omega) (by omega), fun z => hz M1 N1 n F1 P1 (fun i h1 h2 => ?_), fun z => ?_⟩⟩
      · have q1 := P1.lo n (Nat.le_refl _) hn'
        have q2 := X.L.mono n i h1 h2
        omega
      · exact r_row X K1 L1 (by omega) P1 hn' z (fun M2 N2 F2 P2 => ih (n + 1) (by omega) M2 N2 (F1.tr F2) P2)
  have key : ∀ (j hr : Nat), hr + j = now + 1 → ∀ M1 N1 n, FrM M N M1 N1 → ((hr = 0 ∧ n = 0 ∧ PM bk lg NN but 0 0 M1 N1) ∨ (0 < hr ∧ PM bk lg NN but n (hr - 1) M1 N1 ∧ ∀ i, n ≤ i → i < NN → hr ≤ lg i 0)) → w_X12_again_p133 postI (j + 1) l3 l4 l6 l8 (nI n) (nI hr) M1 N1 := by
    intro j
    induction j with
    | zero =>
      intro hr hhr M1 N1 n F1 hP
      have hP' : 0 < hr ∧ PM bk lg NN but n (hr - 1) M1 N1 ∧ ∀ i, n ≤ i → i < NN → hr ≤ lg i 0 := by
        rcases hP with h1 | h1
        · omega
        · exact h1
      obtain ⟨q0, q1, q2⟩ := hP'
      have hn : n = NN := by
        have h1 := q1.le
        by_cases z : n = NN
        · exact z
        · have y1 := q2 n (Nat.le_refl _) (by omega)
          have y2 := hup n (by omega)
          omega
      subst hn
      rw [show hr - 1 = now by omega] at q1
      have e2 : M1 (3, 0, 2) = M (3, 0, 2) := F1.row (by decide) (by omega)
      rw [w_X12_again_p133_s]
      unfold w_X12_again_p133_b
      rw [e2, ea]
      exact ⟨fun _ => h M1 N1 F1 q1, fun z => absurd (nI_lt (by omega) (by omega)) z⟩
    | succ j ih =>
      intro hr hhr M1 N1 n F1 hP
      have e2 : M1 (3, 0, 2) = M (3, 0, 2) := F1.row (by decide) (by omega)
      have step : ∀ M2 N2 n2, FrM M N M2 N2 → PM bk lg NN but n2 hr M2 N2 → (∀ i, n2 ≤ i → i < NN → hr + 1 ≤ lg i 0) → w_X12_again_p133 postI (j + 1) l3 l4 l6 l8 (nI n2) (nI (hr + 1)) M2 N2 := fun M2 N2 n2 F2 P2 hl => ih (hr + 1) (by omega) M2 N2 n2 F2 (Or.inr ⟨by omega, by rw [Nat.add_sub_cancel]; exact P2, hl⟩)
      rw [w_X12_again_p133_s]
      unfold w_X12_again_p133_b
      rw [e2, ea]
      refine ⟨fun z => absurd z (nI_nlt (by omega) (by omega)), fun _ => ⟨fun z => ?_, fun z => ?_⟩⟩
      · rcases hP with ⟨q0, q1, q2⟩ | ⟨q0, q1, q2⟩
        · subst q0
          subst q1
          exact ⟨NN + 1, inner 0 (by omega) _ step NN 0 (by omega) M1 N1 F1 q2⟩
        · exact absurd z (nI_nle q0 (by omega))
      · rcases hP with ⟨q0, q1, q2⟩ | ⟨q0, q1, q2⟩
        · subst q0
          exact absurd (by decide) z
        · refine r_hourStep X (by omega) q1 (fun i h1 h2 => by have := q2 i h1 h2; omega) (fun M2 N2 F2 P2 => ?_)
          rw [show hr - 1 + 1 = hr by omega] at P2
          have := P2.le
          exact ⟨NN - n + 1, inner hr (by omega) _ step (NN - n) n (by omega) M2 N2 (F1.tr F2) P2⟩
  exact key (now + 1) 0 (by omega) M N 0 FrM.rf (Or.inl ⟨rfl, rfl, P0⟩)
/-- the field comes back from the aside row -/
theorem r_back {v : Int32} {l6 l8 : Int64} (h : postI v (am_s M (3, 0, 1) (fun i => if i < 1635 then M (3, 0, 2) i else M (3, 0, 1) i)) (am_ul (am_ul N (3, 0, 0) 2 l6) (3, 0, 0) 3 l8)) : ∃ n, w_X12_again_p211 postI n l6 l8 v 0 M N := by
  refine ⟨1636, ?_⟩
  have key : ∀ (j k : Nat), k + j = 1635 → w_X12_again_p211 postI (j + 1) l6 l8 v (nI k) (am_s M (3, 0, 1) (fun i => if i < k then M (3, 0, 2) i else M (3, 0, 1) i)) N := by
    intro j
    induction j with
    | zero =>
      intro k hk
      have hk' : k = 1635 := by omega
      subst hk'
      rw [w_X12_again_p211_s]
      unfold w_X12_again_p211_b
      exact ⟨fun _ => h, fun z => absurd (nI_le (a := 1635) (b := 1635) (by omega) (by omega)) z⟩
    | succ j ih =>
      intro k hk
      rw [w_X12_again_p211_s]
      unfold w_X12_again_p211_b
      rw [nI_clamp (show k < 2 ^ 31 by omega), nI_1, am_u_s, am_s_other _ _ (by simp)]
      refine ⟨fun z => absurd z (nI_ge (b := 1635) (by omega) (by omega)), fun _ => ⟨vp_in_nI (by omega) (by omega), vp_in_nI (by omega) (by omega), ?_⟩⟩
      have ih' := ih (k + 1) (by omega)
      have e : upd (fun i => if i < k then M (3, 0, 2) i else M (3, 0, 1) i) k (M (3, 0, 2) k) = (fun i => if i < k + 1 then M (3, 0, 2) i else M (3, 0, 1) i) := by
        funext i
        by_cases e1 : i = k
        · subst e1; rw [pk_us, if_pos (by omega)]
        · rw [pk_un e1]
          by_cases e2 : i < k
          · rw [if_pos e2, if_pos (by omega)]
          · rw [if_neg e2, if_neg (by omega)]
      rw [e]
      exact ih'
  have k0 := key 1635 0 (by omega)
  have e : (fun i => if i < 0 then M (3, 0, 2) i else M (3, 0, 1) i) = M (3, 0, 1) := by
    funext i
    rw [if_neg (by omega)]
  rw [e, am_s_id] at k0
  exact k0
theorem r_aside (h : ∀ zv1 : Int64, zv1 = N (3, 0, 0) 2 → ∀ zv2 : Int64, zv2 = N (3, 0, 0) 3 → w_X12_begins (am_u (am_u (am_s M (3, 0, 2) (fun i => if i < 1635 then M (3, 0, 1) i else M (3, 0, 2) i)) (3, 0, 0) 30 a1) (3, 0, 0) 31 a2) N (fun zM3 zN4 => ∃ n, w_X12_again_p133 postI n a3 a4 zv1 zv2 0 0 zM3 zN4)) : ∃ n, w_X12_again_p73 postI n a1 a2 a3 a4 0 M N := by
  refine ⟨1636, ?_⟩
  have key : ∀ (j k : Nat), k + j = 1635 → w_X12_again_p73 postI (j + 1) a1 a2 a3 a4 (nI k) (am_s M (3, 0, 2) (fun i => if i < k then M (3, 0, 1) i else M (3, 0, 2) i)) N := by
    intro j
    induction j with
    | zero =>
      intro k hk
      have hk' : k = 1635 := by omega
      subst hk'
      rw [w_X12_again_p73_s]
      unfold w_X12_again_p73_b
      exact ⟨fun _ => h, fun z => absurd (nI_le (a := 1635) (b := 1635) (by omega) (by omega)) z⟩
    | succ j ih =>
      intro k hk
      rw [w_X12_again_p73_s]
      unfold w_X12_again_p73_b
      rw [nI_clamp (show k < 2 ^ 31 by omega), nI_1, am_u_s, am_s_other _ _ (by simp)]
      refine ⟨fun z => absurd z (nI_ge (b := 1635) (by omega) (by omega)), fun _ => ⟨vp_in_nI (by omega) (by omega), vp_in_nI (by omega) (by omega), ?_⟩⟩
      have ih' := ih (k + 1) (by omega)
      have e : upd (fun i => if i < k then M (3, 0, 1) i else M (3, 0, 2) i) k (M (3, 0, 1) k) = (fun i => if i < k + 1 then M (3, 0, 1) i else M (3, 0, 2) i) := by
        funext i
        by_cases e1 : i = k
        · subst e1; rw [pk_us, if_pos (by omega)]
        · rw [pk_un e1]
          by_cases e2 : i < k
          · rw [if_pos e2, if_pos (by omega)]
          · rw [if_neg e2, if_neg (by omega)]
      rw [e]
      exact ih'
  have k0 := key 1635 0 (by omega)
  have e : (fun i => if i < 0 then M (3, 0, 1) i else M (3, 0, 2) i) = M (3, 0, 2) := by
    funext i
    rw [if_neg (by omega)]
  rw [e, am_s_id] at k0
  exact k0
theorem r_again (P : IP bk lg NN now wd) (R : IRf bk lg NN now wd M N) (D : WdOK M (cnL lg NN) wd) {k j c : Nat} (hk : k < 3) (hj : j < 64) (hc : c < 64) (h : ∀ M1 N1, FrR M N M1 N1 → IRf bk lg NN now wd M1 N1 → postI (cellV wd (rep bk (butOf (nI k) (nI j)) lg now NN).1 c a4) M1 N1) : ∃ n, w_X12_again_p73 postI n (nI k) (nI j) (nI c) a4 0 M N := by
  obtain ⟨g1, g2, g3, g4⟩ := rep_good (but := noBut) P.X.L P.X.B P.X.N now NN P.nw (Nat.le_refl _)
  refine r_aside (fun v6 e6 v8 e8 => ?_)
  rw [R.rm.w.fe] at e6
  rw [R.rm.w.lo] at e8
  have ef := R.rm.w.f
  -- the memory before the beginning
  have o1 : ∀ c : am_C, c ≠ (3, 0, 2) → c ≠ (3, 0, 0) → am_u (am_u (am_s M (3, 0, 2) (fun i => if i < 1635 then M (3, 0, 1) i else M (3, 0, 2) i)) (3, 0, 0) 30 (nI k)) (3, 0, 0) 31 (nI j) c = M c := fun c h1 h2 => by rw [am_u_o _ _ _ h2, am_u_o _ _ _ h2, am_s_other _ _ h1]
  have o2 : am_u (am_u (am_s M (3, 0, 2) (fun i => if i < 1635 then M (3, 0, 1) i else M (3, 0, 2) i)) (3, 0, 0) 30 (nI k)) (3, 0, 0) 31 (nI j) (3, 0, 2) = (fun i => if i < 1635 then M (3, 0, 1) i else M (3, 0, 2) i) := by rw [am_u_o _ _ _ (by simp), am_u_o _ _ _ (by simp), am_s_same]
  have o3 : am_u (am_u (am_s M (3, 0, 2) (fun i => if i < 1635 then M (3, 0, 1) i else M (3, 0, 2) i)) (3, 0, 0) 30 (nI k)) (3, 0, 0) 31 (nI j) (3, 0, 0) = upd (upd (M (3, 0, 0)) 30 (nI k)) 31 (nI j) := by rw [am_u_c, am_u_c, am_s_other _ _ (by simp)]
  generalize am_u (am_u (am_s M (3, 0, 2) (fun i => if i < 1635 then M (3, 0, 1) i else M (3, 0, 2) i)) (3, 0, 0) 30 (nI k)) (3, 0, 0) 31 (nI j) = M2 at o1 o2 o3 ⊢
  refine r_begins ?_
  have eb : (fun i => if i < 1635 then begF i else M2 (3, 0, 1) i) = begF := by
    funext i
    by_cases e : i < 1635
    · rw [if_pos e]
    · rw [if_neg e, o1 _ (by simp) (by simp), ef, g3 i (by omega), begF_at (by omega) (by omega)]
  rw [eb]
  have q1 : ∀ i, i ≠ 1 → i ≠ 2 → i ≠ 0 → am_s M2 (3, 0, 1) begF (3, 0, i) = M (3, 0, i) := fun i h1 h2 h3 => by rw [am_s_other _ _ (fun e => by simp only [Prod.mk.injEq] at e; omega), o1 _ (fun e => by simp only [Prod.mk.injEq] at e; omega) (fun e => by simp only [Prod.mk.injEq] at e; omega)]
  have q0 : am_s M2 (3, 0, 1) begF (3, 0, 0) = upd (upd (M (3, 0, 0)) 30 (nI k)) 31 (nI j) := by rw [am_s_other _ _ (by simp), o3]
  have q2 : am_s M2 (3, 0, 1) begF (3, 0, 2) = (fun i => if i < 1635 then M (3, 0, 1) i else M (3, 0, 2) i) := by rw [am_s_other _ _ (by simp), o2]
  have qf : am_s M2 (3, 0, 1) begF (3, 0, 1) = begF := am_s_same _ _ _
  have qo : ∀ c : am_C, c ≠ (3, 0, 1) → c ≠ (3, 0, 2) → c ≠ (3, 0, 0) → am_s M2 (3, 0, 1) begF c = M c := fun c h1 h2 h3 => by rw [am_s_other _ _ h1, o1 _ h2 h3]
  generalize am_s M2 (3, 0, 1) begF = M3 at q0 q1 q2 qf qo ⊢
  have n2 : am_ul (am_ul N (3, 0, 0) 2 0) (3, 0, 0) 3 0 (3, 0, 0) 2 = 0 := by rw [am_ul_c, pk_uLn (by decide), am_ul_c, pk_uLs]
  have n3 : am_ul (am_ul N (3, 0, 0) 2 0) (3, 0, 0) 3 0 (3, 0, 0) 3 = 0 := by rw [am_ul_c, pk_uLs]
  have nz : ∀ i, i ≠ 2 → i ≠ 3 → am_ul (am_ul N (3, 0, 0) 2 0) (3, 0, 0) 3 0 (3, 0, 0) i = N (3, 0, 0) i := fun i h1 h2 => by rw [am_ul_c, pk_uLn h2, am_ul_c, pk_uLn h1]
  have no : ∀ c : am_C, c ≠ (3, 0, 0) → am_ul (am_ul N (3, 0, 0) 2 0) (3, 0, 0) 3 0 c = N c := fun c hc => by rw [am_ul_o _ _ _ hc, am_ul_o _ _ _ hc]
  generalize am_ul (am_ul N (3, 0, 0) 2 0) (3, 0, 0) 3 0 = N3 at n2 n3 nz no ⊢
  have K3 : BkM M3 bk (cnL lg NN) := by
    refine ⟨?_, ?_, ?_, ?_, ?_⟩
    · rw [q1 8 (by omega) (by omega) (by omega), q1 9 (by omega) (by omega) (by omega), q1 10 (by omega) (by omega) (by omega)]; exact R.K.r
    · rw [q1 11 (by omega) (by omega) (by omega), q1 12 (by omega) (by omega) (by omega), q1 13 (by omega) (by omega) (by omega), q1 14 (by omega) (by omega) (by omega), q1 15 (by omega) (by omega) (by omega)]; exact R.K.c
    · rw [q1 16 (by omega) (by omega) (by omega), q1 17 (by omega) (by omega) (by omega), q1 18 (by omega) (by omega) (by omega)]; exact R.K.w
    · rw [q1 19 (by omega) (by omega) (by omega)]; exact R.K.l
    · rw [q1 20 (by omega) (by omega) (by omega), q1 21 (by omega) (by omega) (by omega)]; exact R.K.k
  have L3 : LgM M3 lg NN := by
    refine ⟨?_, fun i hi => ?_⟩
    · rw [q1 4 (by omega) (by omega) (by omega)]; exact R.L.h
    · unfold rowM
      rw [q1 3 (by omega) (by omega) (by omega), q1 5 (by omega) (by omega) (by omega), q1 6 (by omega) (by omega) (by omega), q1 7 (by omega) (by omega) (by omega)]
      exact R.L.r i hi
  have P0 : PM bk lg NN (butOf (nI k) (nI j)) 0 0 M3 N3 := ⟨⟨K3.cut (cnL_le' (Nat.zero_le _)), qf, n2, n3, fun k' i' hk' hi' => by rw [q0]; exact Iff.rfl⟩, Nat.zero_le _, fun i hi => absurd hi (Nat.not_lt_zero _), fun _ _ _ => Nat.zero_le _⟩
  refine r_replay P.X P.nw P.up K3 L3 (by rw [q0, pk_un (by decide), pk_un (by decide)]; exact R.ct.n) (by rw [q2]; show (if _ then _ else _) = _; rw [if_pos (by omega)]; exact R.nowI P) P0 (fun M4 N4 F4 P4 => ?_)
  have D4 : WdOK M4 (cnL lg NN) wd := by
    have e24 : M4 (2, 4, 1) = M (2, 4, 1) := by rw [(F4.1 (2, 4, 1) (by simp) (fun z => by simp at z)).1, qo _ (by simp) (by simp) (by simp)]
    have e22 : M4 (3, 0, 22) = M (3, 0, 22) := by rw [F4.row (by decide) (by omega), q1 22 (by omega) (by omega) (by omega)]
    exact ⟨fun k hk => by rw [e24]; exact D.c k hk, fun k hk => by rw [e22]; exact D.m k hk, D.z, D.b⟩
  have m0 : M4 (3, 0, 0) = upd (upd (M (3, 0, 0)) 30 (nI k)) 31 (nI j) := by rw [F4.row (by decide) (by omega), q0]
  have m2 : M4 (3, 0, 2) = (fun i => if i < 1635 then M (3, 0, 1) i else M (3, 0, 2) i) := by rw [F4.row (by decide) (by omega), q2]
  have mr : ∀ i, i ≠ 1 → i ≠ 2 → i ≠ 0 → (i < 23 ∨ 31 < i) → M4 (3, 0, i) = M (3, 0, i) := fun i h1 h2 h3 h4 => by rw [F4.row h1 h4, q1 i h1 h2 h3]
  have gt := (rep_good (but := butOf (nI k) (nI j)) P.X.L P.X.B P.X.N now NN P.nw (Nat.le_refl _)).2.2.1
  refine r_cellOf P4.w D4 hc ?_
  refine r_back ?_
  have ebk : (fun i => if i < 1635 then (am_u M4 (3, 0, 0) 30 (-1)) (3, 0, 2) i else (am_u M4 (3, 0, 0) 30 (-1)) (3, 0, 1) i) = (rep bk noBut lg now NN).1 := by
    funext i
    rw [am_u_o _ _ _ (by simp), am_u_o _ _ _ (by simp), m2, P4.w.f]
    by_cases e : i < 1635
    · rw [if_pos e]
      show (if i < 1635 then M (3, 0, 1) i else M (3, 0, 2) i) = _
      rw [if_pos e, ef]
    · rw [if_neg e, gt i (by omega), g3 i (by omega)]
  rw [ebk]
  have s0 : am_s (am_u M4 (3, 0, 0) 30 (-1)) (3, 0, 1) (rep bk noBut lg now NN).1 (3, 0, 0) = upd (upd (upd (M (3, 0, 0)) 30 (nI k)) 31 (nI j)) 30 (-1) := by rw [am_s_other _ _ (by simp), am_u_c, m0]
  have s1 : am_s (am_u M4 (3, 0, 0) 30 (-1)) (3, 0, 1) (rep bk noBut lg now NN).1 (3, 0, 1) = (rep bk noBut lg now NN).1 := am_s_same _ _ _
  have sr : ∀ i, i ≠ 1 → i ≠ 2 → i ≠ 0 → (i < 23 ∨ 31 < i) → am_s (am_u M4 (3, 0, 0) 30 (-1)) (3, 0, 1) (rep bk noBut lg now NN).1 (3, 0, i) = M (3, 0, i) := fun i h1 h2 h3 h4 => by rw [am_s_other _ _ (fun e => by simp only [Prod.mk.injEq] at e; omega), am_u_o _ _ _ (fun e => by simp only [Prod.mk.injEq] at e; omega), mr i h1 h2 h3 h4]
  have so : ∀ c : am_C, c.1 ≠ 3 ∨ (c.1 = 3 ∧ 32 ≤ c.2.2) → am_s (am_u M4 (3, 0, 0) 30 (-1)) (3, 0, 1) (rep bk noBut lg now NN).1 c = M c ∧ am_ul (am_ul N4 (3, 0, 0) 2 v6) (3, 0, 0) 3 v8 c = N c := fun c hc => by
    have hne : ∀ i, i < 32 → c ≠ (3, 0, i) := fun i hi e => by subst e; simp at hc; omega
    obtain ⟨f1, f2⟩ := (FrR.ofM F4).1 c hc
    rw [am_s_other _ _ (hne 1 (by omega)), am_u_o _ _ _ (hne 0 (by omega)), f1, am_ul_o _ _ _ (hne 0 (by omega)), am_ul_o _ _ _ (hne 0 (by omega)), f2, no c (hne 0 (by omega))]
    exact ⟨qo c (hne 1 (by omega)) (hne 2 (by omega)) (hne 0 (by omega)), rfl⟩
  have sj : ∀ i, i ≠ 30 → i ≠ 31 → am_s (am_u M4 (3, 0, 0) 30 (-1)) (3, 0, 1) (rep bk noBut lg now NN).1 (3, 0, 0) i = M (3, 0, 0) i := fun i h1 h2 => by rw [s0, pk_un h1, pk_un h2, pk_un h1]
  have s30 : am_s (am_u M4 (3, 0, 0) 30 (-1)) (3, 0, 1) (rep bk noBut lg now NN).1 (3, 0, 0) 30 = -1 := by rw [s0, pk_us]
  have w2 : am_ul (am_ul N4 (3, 0, 0) 2 v6) (3, 0, 0) 3 v8 (3, 0, 0) 2 = v6 := by rw [am_ul_c, pk_uLn (by decide), am_ul_c, pk_uLs]
  have w3 : am_ul (am_ul N4 (3, 0, 0) 2 v6) (3, 0, 0) 3 v8 (3, 0, 0) 3 = v8 := by rw [am_ul_c, pk_uLs]
  generalize am_s (am_u M4 (3, 0, 0) 30 (-1)) (3, 0, 1) (rep bk noBut lg now NN).1 = M6 at s1 sr so sj s30 ⊢
  generalize am_ul (am_ul N4 (3, 0, 0) 2 v6) (3, 0, 0) 3 v8 = N6 at so w2 w3 ⊢
  have K6 : BkM M6 bk (cnL lg NN) := by
    refine ⟨?_, ?_, ?_, ?_, ?_⟩
    · rw [sr 8 (by omega) (by omega) (by omega) (by omega), sr 9 (by omega) (by omega) (by omega) (by omega), sr 10 (by omega) (by omega) (by omega) (by omega)]; exact R.K.r
    · rw [sr 11 (by omega) (by omega) (by omega) (by omega), sr 12 (by omega) (by omega) (by omega) (by omega), sr 13 (by omega) (by omega) (by omega) (by omega), sr 14 (by omega) (by omega) (by omega) (by omega), sr 15 (by omega) (by omega) (by omega) (by omega)]; exact R.K.c
    · rw [sr 16 (by omega) (by omega) (by omega) (by omega), sr 17 (by omega) (by omega) (by omega) (by omega), sr 18 (by omega) (by omega) (by omega) (by omega)]; exact R.K.w
    · rw [sr 19 (by omega) (by omega) (by omega) (by omega)]; exact R.K.l
    · rw [sr 20 (by omega) (by omega) (by omega) (by omega), sr 21 (by omega) (by omega) (by omega) (by omega)]; exact R.K.k
  refine h M6 N6 ⟨so, fun i hi => sj i (by omega) (by omega)⟩ ⟨K6, fun i hi => by rw [sr 22 (by omega) (by omega) (by omega) (by omega)]; exact R.D i hi, ⟨?_, fun i hi => ?_⟩, ⟨⟨K6.cut CnLe.rf, s1, by rw [w2]; exact e6, by rw [w3]; exact e8, fun k' i' hk' hi' => ?_⟩, Nat.le_refl _, R.rm.up, R.rm.lo⟩, ⟨by rw [sj 4 (by omega) (by omega)]; exact R.ct.n, by rw [sj 10 (by omega) (by omega)]; exact R.ct.r, by rw [sj 11 (by omega) (by omega)]; exact R.ct.c, by rw [sj 12 (by omega) (by omega)]; exact R.ct.w, by rw [sj 13 (by omega) (by omega)]; exact R.ct.l, by rw [sj 14 (by omega) (by omega)]; exact R.ct.k, s30⟩⟩
  · rw [sr 4 (by omega) (by omega) (by omega) (by omega)]; exact R.L.h
  · unfold rowM
    rw [sr 3 (by omega) (by omega) (by omega) (by omega), sr 5 (by omega) (by omega) (by omega) (by omega), sr 6 (by omega) (by omega) (by omega) (by omega), sr 7 (by omega) (by omega) (by omega) (by omega)]
    exact R.L.r i hi
  · rw [s30]
    exact ⟨fun z => absurd z.1.symm (nI_ne_m1 (by omega)), fun z => absurd z id⟩
/-- both -/
theorem call_again (h : INVW M N) : w_X11_again a1 a2 a3 a4 M N (fun r M1 N1 => w_X12_again a1 a2 a3 a4 M1 N1 (fun r2 M2 N2 => r = r2 ∧ FrX M N M2 N2 ∧ INVW M2 N2)) := by
  have h0 := h
  obtain ⟨bk, lg, NN, now, wd, P, I, R⟩ := h
  have no : (-1 : Int32) = -1 ∧ FrX M N M N ∧ INVW M N := ⟨rfl, FrX.rf, h0⟩
  have hcb := P.X.L.cb NN (Nat.le_refl _)
  have b1 := hcb.1
  have b2 := hcb.2.1
  have b3 := hcb.2.2.1
  have D := P.wdok I R
  -- the reference refuses
  have ref0 : ∀ (cnt : Nat) (s0 : Int32), s0 = nI cnt → cnt < 64 → ¬ ((∃ j, j < cnt ∧ a2 = nI j) ∧ (0 ≤ a3 ∧ a3 ≤ 63) ∧ (0 ≤ a4 ∧ a4 ≤ 10)) → w_X12_again_p36 (fun r2 M2 N2 => (-1) = r2 ∧ FrX M N M2 N2 ∧ INVW M2 N2) a1 a2 a3 a4 s0 M N := by
    intro cnt s0 es hcnt hno
    unfold w_X12_again_p36
    refine r_isInM es (by omega) (fun j hj ej => ⟨fun z => absurd z (by decide), fun _ => eq_X12_isCell.mpr ?_⟩) (fun _ => ⟨fun _ => no, fun z => absurd rfl z⟩)
    by_cases y3 : 0 ≤ a3 ∧ a3 ≤ 63
    · rw [am_bt y3]
      refine ⟨fun z => absurd z (by decide), fun _ => eq_X12_isIn.mpr ?_⟩
      by_cases y4 : 0 ≤ a4 ∧ a4 ≤ 10
      · exact absurd ⟨⟨j, hj, ej⟩, y3, y4⟩ hno
      · rw [am_bf y4]
        exact ⟨fun z => absurd rfl z, fun _ => no⟩
    · rw [am_bf y3]
      exact ⟨fun _ => no, fun z => absurd rfl z⟩
  -- the reference answers
  have ref1 : ∀ (k j c : Nat) (cnt : Nat), k < 3 → j < cnt → cnt < 64 → c < 64 → (0 ≤ a4 ∧ a4 ≤ 10) → ∀ M1 N1, FrC M N M1 N1 → ICl bk lg NN now wd M1 N1 → ∀ s0 : Int32, s0 = nI cnt → w_X12_again_p36 (fun r2 M2 N2 => cellV wd (rep bk (butOf (nI k) (nI j)) lg now NN).1 c a4 = r2 ∧ FrX M N M2 N2 ∧ INVW M2 N2) (nI k) (nI j) (nI c) a4 s0 M1 N1 := by
    intro k j c cnt hk hj hcnt hc y4 M1 N1 F1 I1 s0 es
    have R1 := R.ofC F1
    unfold w_X12_again_p36
    refine r_isInM es (by omega) (fun _ _ _ => ⟨fun z => absurd z (by decide), fun _ => eq_X12_isCell.mpr ?_⟩) (fun z => absurd ⟨j, hj, rfl⟩ z)
    rw [am_bt ⟨nI_pos' (by omega), nI_le (b := 63) (by omega) (by omega)⟩]
    refine ⟨fun z => absurd z (by decide), fun _ => eq_X12_isIn.mpr ?_⟩
    rw [am_bt y4]
    refine ⟨fun _ => r_again P R1 (P.wdok I1 R1) hk (by omega) hc (fun M2 N2 F2 R2 => ⟨rfl, FrX.of F1 F2, bk, lg, NN, now, wd, P, I1.ofR F2, R2⟩), fun z => absurd z (by decide)⟩
  have fin : ∀ (k cnt : Nat), k < 3 → a1 = nI k → cnt = (if k = 0 then (cnL lg NN).r else if k = 1 then (cnL lg NN).c else (cnL lg NN).w) → cnt < 64 → (∀ M1 N1 K, FrC M N M1 N1 → (∀ s0 : Int32, s0 = nI cnt → w_X12_again_p36 K (nI k) a2 a3 a4 s0 M1 N1) → w_X12_again (nI k) a2 a3 a4 M1 N1 K) → (∀ {K : Int32 → am_I → am_N → Prop}, ¬ ((∃ j, j < cnt ∧ a2 = nI j) ∧ (0 ≤ a3 ∧ a3 ≤ 63) ∧ (0 ≤ a4 ∧ a4 ≤ 10)) → K (-1) M N → w_X11_again (nI k) a2 a3 a4 M N K) → w_X11_again a1 a2 a3 a4 M N (fun r M1 N1 => w_X12_again a1 a2 a3 a4 M1 N1 (fun r2 M2 N2 => r = r2 ∧ FrX M N M2 N2 ∧ INVW M2 N2)) := by
    intro k cnt hk ek hcnt hc64 hw hcl
    subst ek
    by_cases ok : (∃ j, j < cnt ∧ a2 = nI j) ∧ (0 ≤ a3 ∧ a3 ≤ 63) ∧ (0 ≤ a4 ∧ a4 ≤ 10)
    · obtain ⟨⟨j, hj, ej⟩, y3, y4⟩ := ok
      subst ej
      obtain ⟨c, hc, rfl⟩ : ∃ x, x ≤ 63 ∧ a3 = nI x := nI_of2 (M := 63) (n := 63) rfl (Int32.not_lt.mpr y3.1) y3.2
      exact c_again P I D hk (by rw [← hcnt]; exact hj) (by omega) y4 (fun M1 N1 F1 I1 => hw M1 N1 _ F1 (fun s0 es => ref1 k j c cnt hk hj hc64 (by omega) y4 M1 N1 F1 I1 s0 es))
    · exact hcl ok (hw M N _ FrC.rf (fun s0 es => ref0 cnt s0 es hc64 ok))
  -- the class refuses
  have cno : ∀ (k cnt t w : Nat), t = k + 1 → k < 3 → tabOK M t w cnt → ∀ {K : Int32 → am_I → am_N → Prop}, ¬ ((∃ j, j < cnt ∧ a2 = nI j) ∧ (0 ≤ a3 ∧ a3 ≤ 63) ∧ (0 ≤ a4 ∧ a4 ≤ 10)) → K (-1) M N → w_X11_again (nI k) a2 a3 a4 M N K := by
    intro k cnt t w et hk hT K hno hK
    have rest : ∀ r : Int32, r = 1 → (∃ j, j < cnt ∧ a2 = nI j) → ((r = 0 → K (-1) M N) ∧ (¬ r = 0 → w_X11_isCell a3 M N (fun zr4 zM5 zN6 => ((zr4 = 0 → K (-1) zM5 zN6) ∧ (¬ zr4 = 0 → w_X11_within a4 0 10 zM5 zN6 (fun zr7 zM8 zN9 => ((¬ zr7 = 0 → w_X10_leavesOut 1 (nI k) a2 zM8 zN9 (fun zr10 zM11 zN12 => ((¬ zr10 = 0 → w_X11_again_p50 K a3 a4 zM11 zN12) ∧ (zr10 = 0 → w_X10_begin 1 (nI k) a2 zM11 zN12 (fun zM13 zN14 => w_X11_again_p50 K a3 a4 zM13 zN14))))) ∧ (zr7 = 0 → K (-1) zM8 zN9)))))))) := by
      intro r hr hex
      subst hr
      refine ⟨fun z => absurd z (by decide), fun _ => eq_X11_isCell.mpr ?_⟩
      by_cases y3 : 0 ≤ a3 ∧ a3 ≤ 63
      · rw [am_bt y3]
        refine ⟨fun z => absurd z (by decide), fun _ => eq_X11_within.mpr ?_⟩
        by_cases y4 : 0 ≤ a4 ∧ a4 ≤ 10
        · exact absurd ⟨hex, y3, y4⟩ hno
        · rw [am_bf y4]
          exact ⟨fun z => absurd rfl z, fun _ => hK⟩
      · rw [am_bf y3]
        exact ⟨fun _ => hK, fun z => absurd rfl z⟩
    unfold w_X11_again w_X11_canLeaveOut
    have k0 : nI k = 0 ↔ k = 0 := nI_eq (b := 0) (by omega) (by omega)
    have k1 : nI k = 1 ↔ k = 1 := nI_eq (b := 1) (by omega) (by omega)
    have k2 : nI k = 2 ↔ k = 2 := nI_eq (b := 2) (by omega) (by omega)
    rw [k0, k1, k2]
    subst et
    refine ⟨fun e => ?_, fun e => ?_, fun e => ?_, fun n0 n1 n2 => by omega⟩
    · subst e
      exact c_has hT (fun j hj ej => ⟨Or.inr rfl, rest 1 rfl ⟨j, hj, ej⟩⟩) (fun z => ⟨Or.inl rfl, fun _ => hK, fun z => absurd rfl z⟩)
    · subst e
      exact c_has hT (fun j hj ej => ⟨Or.inr rfl, rest 1 rfl ⟨j, hj, ej⟩⟩) (fun z => ⟨Or.inl rfl, fun _ => hK, fun z => absurd rfl z⟩)
    · subst e
      exact c_has hT (fun j hj ej => ⟨Or.inr rfl, rest 1 rfl ⟨j, hj, ej⟩⟩) (fun z => ⟨Or.inl rfl, fun _ => hK, fun z => absurd rfl z⟩)
  by_cases e0 : a1 = 0
  · refine fin 0 (cnL lg NN).r (by omega) e0 rfl (by omega) (fun M1 N1 K F1 hK => ?_) (cno 0 _ 1 3 rfl (by omega) I.K.t1)
    unfold w_X12_again
    rw [F1.ref]
    exact ⟨fun z => absurd rfl z, fun _ => hK _ R.ct.r⟩
  by_cases e1 : a1 = 1
  · refine fin 1 (cnL lg NN).c (by omega) e1 rfl (by omega) (fun M1 N1 K F1 hK => ?_) (cno 1 _ 2 5 rfl (by omega) I.K.t2)
    unfold w_X12_again
    rw [F1.ref]
    exact ⟨fun _ => ⟨fun z => absurd rfl z, fun _ => hK _ R.ct.c⟩, fun z => absurd z (by decide)⟩
  by_cases e2 : a1 = 2
  · refine fin 2 (cnL lg NN).w (by omega) e2 rfl (by omega) (fun M1 N1 K F1 hK => ?_) (cno 2 _ 3 3 rfl (by omega) I.K.t3)
    unfold w_X12_again
    rw [F1.ref]
    exact ⟨fun _ => ⟨fun _ => ⟨fun z => absurd rfl z, fun _ => hK _ R.ct.w⟩, fun z => absurd z (by decide)⟩, fun z => absurd z (by decide)⟩
  · unfold w_X11_again w_X11_canLeaveOut
    refine ⟨fun z => absurd z e0, fun z => absurd z e1, fun z => absurd z e2, fun _ _ _ => ⟨fun _ => ?_, fun z => absurd rfl z⟩⟩
    unfold w_X12_again
    refine ⟨fun _ => ⟨fun _ => ⟨fun _ => ref0 0 0 rfl (by omega) (fun z => ?_), fun z => absurd z e2⟩, fun z => absurd z e1⟩, fun z => absurd z e0⟩
    obtain ⟨⟨j, hj, -⟩, -⟩ := z
    omega
end AR
