/-! ===== the law: the whole ===== -/
section WH
variable {L : Nat} {xs : Nat → Int32}
theorem zr0 : Zr 0 Z0 ZN0 := fun _ _ _ => ⟨rfl, rfl⟩
set_option maxRecDepth 100000 in
set_option maxHeartbeats 4000000 in
theorem l_start (hL : L ≤ 3584) : jm L xs 0 0 0 128 0 [(0, .inr (.inr (8, 0, 0)))] [] Z0 ZN0 := by
  refine m_new (k := 0) (c0 := (0, 0, 0)) (n := 10) dL_0 cb10 (am_in1 24 rfl rfl) (am_in1 25 rfl rfl) (am_in1 1 rfl rfl) rfl df10 rfl (by decide +kernel) zr0 (by decide) (by decide) (by decide) ?_
  refine m_dup dL_3 rfl ?_
  have z1 : Zr 1 Z0 ZN0 := zr0.mono (by decide)
  refine m_call (k1 := 77) (r1 := 44) dL_4 ⟨Or.inl (am_in1 26 rfl rfl), am_in1 27 rfl rfl⟩ mbX11_init rfl rfl (by decide) (by decide) (show 5 ≤ 100 by decide) (i_X11_0_0 (post := fun M N => ∃ M2 N2 M3 N3, BG 0 (bookM Z0) ZN0 M2 N2 ∧ BG 1 M2 N2 M3 N3 ∧ M = M5o M3 ∧ N = N3) z1 (fun M2 N2 M3 N3 h0 h1 => ⟨M2, N2, M3, N3, h0, h1, rfl, rfl⟩)) ?_ ?_ (by decide) (by decide) (fun M' N' hp => ?_)
  · intro y hy c hc
    rcases List.mem_singleton.mp hy with rfl
    right
    have : ((8, 0, 0) : am_C) = c := Sum.inr.inj (Sum.inr.inj hc)
    rw [← this]
  · intro v hv c hc
    rcases List.mem_singleton.mp hv with rfl
    left
    have : ((0, 0, 0) : am_C) = c := Sum.inr.inj (Sum.inr.inj hc)
    rw [← this]
    decide +kernel
  · obtain ⟨M2, N2, M3, N3, B0, B1, e1, e2⟩ := hp
    rw [e1, e2]
    have z2 : Zr 77 (bookM Z0) ZN0 := Zr.book (by decide +kernel) (zr0.mono (by decide))
    have z3 : Zr 77 M2 N2 := z2.bg (by decide +kernel) B0
    have z4 : Zr 77 M3 N3 := z3.bg (by decide +kernel) B1
    have z5 : Zr 77 (M5o M3) N3 := (((z4.tab' (t := 6) (mo := 12) (wi := 2) (by decide +kernel)).u (a := (0, 0, 0)) (i := 8) (x := 0) (by decide +kernel)).u (a := (0, 0, 0)) (i := 9) (x := -1) (by decide +kernel))
    refine m_astore_n dL_7 rfl ?_
    refine m_new (k := 77) (c0 := (3, 0, 0)) (n := 65) dL_8 cb11 (am_in6 35 rfl rfl) (am_in6 36 rfl rfl) (am_in1 13 rfl rfl) rfl df11 rfl (by decide +kernel) z5 (by decide) (by decide) (by decide) ?_
    refine m_dup dL_11 rfl ?_
    have z6 : Zr 78 (M5o M3) N3 := z5.mono (by decide)
    refine m_call (k1 := 122) (r1 := 0) dL_12 ⟨Or.inl (am_in6 37 rfl rfl), am_in6 38 rfl rfl⟩ mbX12_init rfl rfl (by decide) (by decide) (show 2 ≤ 100 by decide) (i_X12_3_0 (post := fun M N => M = M7o (M5o M3) ∧ N = N7o N3) z6 ⟨rfl, rfl⟩) ?_ ?_ (by decide) (by decide) (fun M' N' hp => ?_)
    · intro y hy c hc
      have hy' : y = (1, .inr (.inr (0, 0, 0))) ∨ y = (0, .inr (.inr (8, 0, 0))) := by
        rcases List.mem_cons.mp hy with h | h
        · exact Or.inl h
        · exact Or.inr (List.mem_singleton.mp h)
      rcases hy' with rfl | rfl
      · left
        have : ((0, 0, 0) : am_C) = c := Sum.inr.inj (Sum.inr.inj hc)
        rw [← this]
        decide +kernel
      · right
        have : ((8, 0, 0) : am_C) = c := Sum.inr.inj (Sum.inr.inj hc)
        rw [← this]
    · intro v hv c hc
      rcases List.mem_singleton.mp hv with rfl
      left
      have : ((3, 0, 0) : am_C) = c := Sum.inr.inj (Sum.inr.inj hc)
      rw [← this]
      decide +kernel
    · rw [hp.1, hp.2]
      refine m_astore_n dL_15 rfl ?_
      refine m_end ?_
      refine l_iconst (v := nI 0) dL_16 (by decide) (l_istore_n dL_17 rfl ?_)
      exact l_loop hL (L + 1) 0 _ _ (by omega) (by omega) (inv_start B0 B1)
theorem str_mem : ∀ i, i < 2 → (Cond.exactly (if i = 0 then .string RX7 73 else .string RX7 86) "java/lang/String") ∈ flatC (Jvm.Cond.and given_1 narrow_1) ∧ (Cond.eq (.field (if i = 0 then .string RX7 73 else .string RX7 86) "java/lang/String" "coder" "B") (.int 0)) ∈ flatC (Jvm.Cond.and given_1 narrow_1) ∧ (Cond.arrayOf (.field (if i = 0 then .string RX7 73 else .string RX7 86) "java/lang/String" "value" "[B") .byte) ∈ flatC (Jvm.Cond.and given_1 narrow_1) ∧ (Cond.eq (.length (.field (if i = 0 then .string RX7 73 else .string RX7 86) "java/lang/String" "value" "[B")) (.int (Int32.ofNat (am_slen.getD i 0)))) ∈ flatC (Jvm.Cond.and given_1 narrow_1) := by decide +kernel
theorem str_el : ∀ i, i < 2 → ∀ j, j < am_slen.getD i 0 → (Cond.eq (.elem (.field (if i = 0 then .string RX7 73 else .string RX7 86) "java/lang/String" "value" "[B") (.int (Int32.ofNat j))) (.int ((am_sbyt.getD i []).getD j 0))) ∈ flatC (Jvm.Cond.and given_1 narrow_1) := by decide +kernel
theorem sK_start {s : State} {b : Nat} (hts0 : ∀ w ∈ lw_tbl, w.before #[Value.ref b] s = true) (hts : ∀ w ∈ am_tb, w.before #[Value.ref b] s = true) (hns : ∀ w ∈ am_nst, w.before #[Value.ref b] s = true) (hgv : (Jvm.Cond.and given_1 narrow_1).before #[Value.ref b] s = true) : ∃ q : am_C → Nat, q (8, 0, 0) = b ∧ am_sK q (fun z => s.heap.size ≤ z) s s.heap := by
  have hs := flat_of_before _ hgv
  have hA : ∀ a : Nat, a < s.heap.size → ¬ (fun z => s.heap.size ≤ z) a := fun a h => Nat.not_le.mpr h
  obtain ⟨adK, adV, hS, hE⟩ := vk_Sof (args := #[Value.ref b]) (s := s) (N := 2) (tm := fun i => if i = 0 then .string RX7 73 else .string RX7 86) (len := am_slen) (byt := am_sbyt) (A := fun z => s.heap.size ≤ z) (by decide) (fun i hi => hs _ (str_mem i hi).1) (fun i hi => hs _ (str_mem i hi).2.1) (fun i hi => hs _ (str_mem i hi).2.2.1) (fun i hi => hs _ (str_mem i hi).2.2.2) (fun i hi j hj => hs _ (str_el i hi j hj)) (fun i j hi hj hij => by
    have h01 : (Cond.not (Cond.eq (.string RX7 73) (.string RX7 86))).before #[Value.ref b] s = true := hs _ (by decide +kernel)
    have : (i = 0 ∧ j = 1) ∨ (i = 1 ∧ j = 0) := by omega
    rcases this with ⟨e1, e2⟩ | ⟨e1, e2⟩
    · subst e1; subst e2; exact Or.inl h01
    · subst e1; subst e2; exact Or.inr h01) hA
  refine ⟨fun c => if c.1 = 8 then b else if c.2.2 = 0 then adK c.2.1 else adV c.2.1, rfl, ?_⟩
  unfold am_sK
  refine ⟨hS, vk_R.of (hts0 _ (am_t5 22 rfl)) (hE 0 (by decide)), vk_R.of (hts0 _ (am_t5 111 rfl)) (hE 1 (by decide)), va_Zof (hts0 _ (am_t5 36 rfl)) (hts0 _ (am_t1 18 rfl)) (va_eqi (hs _ (by decide +kernel))) hA, va_Zqof (hts0 _ (am_t5 77 rfl)) (hts0 _ (am_t1 21 rfl)) (hs _ (by decide +kernel)) hA, fun w hw => ?_⟩
  have h2 := (List.mem_filter.mp hw).2
  refine va_Nw.of ?_ (hns w hw)
  cases w <;> first | rfl | (simp [am_isN] at h2)
theorem K_start {s : State} {args : Array Value} (hts : ∀ w ∈ am_tb, w.before args s = true) : ∃ (D : va_G) (cA : Nat → ClassId), va_K D am_cl (am_tys cA) s := by
  have h : ∀ ci : Nat, ∃ x : ClassId × (Nat → Nat), ∀ y : vw_C, am_cl[ci]? = some y → u_Kn s y.1 y.2.1 y.2.2 x.1 x.2 := by
    intro ci
    by_cases h : ci < 12
    · have one : ∀ {C : String} {T : u_T} {n : Nat} {ty : Nat → FieldType}, am_CB ci C T n ty → Cond.instantiable C n ∈ am_tb → ∃ x : ClassId × (Nat → Nat), ∀ y : vw_C, am_cl[ci]? = some y → u_Kn s y.1 y.2.1 y.2.2 x.1 x.2 := by
        intro C T n ty hcb hin
        obtain ⟨cC, iS, hu⟩ := u_known hts hcb.2.1 (hts _ hin)
        refine ⟨(cC, iS), fun y hy => ?_⟩
        rw [hcb.1] at hy
        rw [← Option.some.inj hy]
        exact hu
      have : ci = 0 ∨ ci = 1 ∨ ci = 2 ∨ ci = 3 ∨ ci = 4 ∨ ci = 5 ∨ ci = 6 ∨ ci = 7 ∨ ci = 8 ∨ ci = 9 ∨ ci = 10 ∨ ci = 11 := by omega
      rcases this with e | e | e | e | e | e | e | e | e | e | e | e <;> subst e
      · exact one cb0 (am_in1 33 rfl rfl)
      · exact one cb1 (am_in1 201 rfl rfl)
      · exact one cb2 (am_in1 122 rfl rfl)
      · exact one cb3 (am_in2 103 rfl rfl)
      · exact one cb4 (am_in1 94 rfl rfl)
      · exact one cb5 (am_in1 154 rfl rfl)
      · exact one cb6 (am_in2 65 rfl rfl)
      · exact one cb7 (am_in2 138 rfl rfl)
      · exact one cb8 (am_in1 39 rfl rfl)
      · exact one cb9 (am_in1 116 rfl rfl)
      · exact one cb10 (am_in1 25 rfl rfl)
      · exact one cb11 (am_in6 36 rfl rfl)
    · obtain ⟨x, _⟩ := u_known hts cb0.2.1 (hts _ (am_in1 33 rfl rfl))
      refine ⟨(x, fun _ => 0), fun y hy => ?_⟩
      have hl := (List.getElem?_eq_some_iff.mp hy).1
      exact absurd hl h
  obtain ⟨g, hg⟩ := Classical.axiomOfChoice h
  have ar : ∀ {ty : FieldType}, Cond.arrayClass ty ∈ am_tb → ∃ c : ClassId, ArrOfT s c ty ∧ s.vm.findClass ("[" ++ ty.toString) = some c := by
    intro ty hin
    obtain ⟨c, k, comp, h1, h2, h3⟩ := Cond.arrayClass_spec (hts _ hin)
    exact ⟨c, fun n z => ⟨fun k h => (by cases h), k, h2, comp, h3⟩, h1⟩
  obtain ⟨c0, a0, b0⟩ := ar (am_in1 61 rfl rfl)
  obtain ⟨c1, a1, b1⟩ := ar (am_in1 199 rfl rfl)
  obtain ⟨c2, a2, b2⟩ := ar (am_in5 189 rfl rfl)
  obtain ⟨c3, a3, b3⟩ := ar (am_in7 1 rfl rfl)
  refine ⟨(fun ci => (g ci).1, fun ci => (g ci).2), fun i => if i = 0 then c0 else if i = 1 then c1 else if i = 2 then c2 else c3, fun ci y hy => hg ci y hy, fun k y hk => ?_⟩
  have hl := (List.getElem?_eq_some_iff.mp hk).1
  have hl' : k < 4 := hl
  have : k = 0 ∨ k = 1 ∨ k = 2 ∨ k = 3 := by omega
  rcases this with e | e | e | e <;> subst e
  · have e := Option.some.inj hk; subst e; exact ⟨a0, b0⟩
  · have e := Option.some.inj hk; subst e; exact ⟨a1, b1⟩
  · have e := Option.some.inj hk; subst e; exact ⟨a2, b2⟩
  · have e := Option.some.inj hk; subst e; exact ⟨a3, b3⟩
end WH
theorem whole_start {p : Program} {e : Env} {s : State} {m : MethodId} {below : List Frame} {meth : Method} {c : Code} (l : Launch) {b L : Nat} {xs : Nat → Int32} (hL : L ≤ 3584) (C0 : lw_At p s m meth c b L xs) : W p l e room_1 s m #[Value.ref b] below meth c s.heap [] 0 0 (lw_Z below #[Value.ref b] s) (entryFrame m ([Value.ref b] : List Value).toArray 4) := by
  obtain ⟨hx, hcd, hret, hml, hown, hts0, hX, hbl, hlk, hgv⟩ := C0
  have hts : ∀ w ∈ am_tb, w.before #[Value.ref b] s = true := fun w hw => hts0 w (List.mem_filter.mp hw).1
  have hns : ∀ w ∈ am_nst, w.before #[Value.ref b] s = true := fun w hw => hts0 w (List.mem_filter.mp hw).1
  obtain ⟨q, hq8, hsk⟩ := sK_start hts0 hts hns hgv
  obtain ⟨D, cA, hK⟩ := K_start hts
  have hl := lv_entry ([Value.ref b]) (n := 4) (Nat.le_of_ble_eq_true rfl)
  rw [lg_entry_eq]
  have hl2 : lv_has ((lg_sl ([Value.ref b]) ++ List.replicate (4 - (lg_sl ([Value.ref b])).length) Slot.unset).toArray) 4 (am_lc q [(0, .inr (.inr (8, 0, 0)))]) := by
    have : am_lc q [(0, .inr (.inr (8, 0, 0)))] = [(0, Value.ref b)] := by
      show [((0 : Nat), Value.ref (q (8, 0, 0)))] = _
      rw [hq8]
    rw [this]
    exact hl
  have K := l_start (xs := xs) hL D q cA p l e s m below meth c s.heap [] _ ⟨hx, hcd, hml, hown, by rw [hq8]; exact hts, hK, hsk, by rw [hq8]; exact hX, by rw [hq8]; exact hbl, hret, hlk⟩ ⟨fun k x h => absurd h (by simp [wQ]), ⟨fun i j x y h => absurd h (by simp [wQ]), fun k x h => absurd h (by simp [wQ])⟩, va_S.rf⟩ hl2
  rw [hq8] at K
  exact K
