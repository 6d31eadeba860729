/-! ===== the law: from its entry to its loop ===== -/
def jm (L : Nat) (xs : Nat → Int32) (cells slots k r pc : Nat) (lv : List (Nat × am_V)) (st : List am_V) (M : am_I) (N : am_N) : Prop :=
  ∀ (D : va_G) (q : am_C → Nat) (cA : Nat → ClassId) (p : Program) (l : Launch) (e : Env) (s : State) (m : MethodId) (below : List Frame) (meth : Method) (c : Code) (H : Heap) (locs : List Loc) (ls : Array Slot),
    lwX L xs D cA q p s m meth c → atU D q cA (fun z => s.heap.size ≤ z) (UL.drop r) (AL.take k) M N s H locs → lv_has ls 4 (am_lc q lv) → W p l e room_1 s m #[Value.ref (q (8, 0, 0))] below meth c H locs cells slots (lw_Z below #[Value.ref (q (8, 0, 0))] s) (F0 m pc ls (st.map (am_v q)))
section JM
variable {L cells slots k k1 r r1 pc : Nat} {xs : Nat → Int32} {lv : List (Nat × am_V)} {st : List am_V} {M : am_I} {N : am_N}
theorem m_dup {v : am_V} (hd : decode code pc = .ok (.dup, 1)) (hv : am_cat v = 1) (kk : jm L xs cells slots k r (pc + 1) lv (v :: v :: st) M N) : jm L xs cells slots k r pc lv (v :: st) M N :=
  fun D q cA p l e s m below meth c H locs ls hX ha hl => lv_dup hX.1 hX.2.1 hd ((am_cat_v q v).trans hv) (kk D q cA p l e s m below meth c H locs ls hX ha hl)
theorem m_astore_n {lv2 : List (Nat × am_V)} {n : Fin 4} {x : am_C} (hd : decode code pc = .ok (.astore_n n, 1)) (hs : am_st1 lv (n : Nat) (.inr (.inr x)) = lv2) (kk : jm L xs cells slots k r (pc + 1) lv2 st M N) : jm L xs cells slots k r pc lv (.inr (.inr x) :: st) M N :=
  fun D q cA p l e s m below meth c H locs ls hX ha hl => lv_astore_n hX.1 hX.2.1 hd rfl hl n.isLt ((am_lc_st1 q lv (n : Nat) (.inr (.inr x))).trans (congrArg (am_lc q) hs)) (fun ls hl => kk D q cA p l e s m below meth c H locs ls hX ha hl)
theorem lwX_ag {D : va_G} {q q' : am_C → Nat} {cA : Nat → ClassId} {p : Program} {s : State} {m : MethodId} {meth : Method} {c : Code} (h8 : q' (8, 0, 0) = q (8, 0, 0)) (h9 : ∀ i j, q' (9, i, j) = q (9, i, j)) (h : lwX L xs D cA q p s m meth c) : lwX L xs D cA q' p s m meth c := by
  obtain ⟨h1, h2, h3, h4, h5, h6, h7, h10, h11, h12, h13⟩ := h
  exact ⟨h1, h2, h3, h4, by rw [h8]; exact h5, h6, am_sK_ag h9 h7, by rw [h8]; exact h10, by rw [h8]; exact h11, h12, h13⟩
theorem m_new {c0 : am_C} {idx ci n : Nat} {C : String} {T : u_T} {ty : Nat → FieldType} (hd : decode code pc = .ok (.new idx, 3)) (hcb : am_CB ci C T n ty) (h1 : Cond.classLink R_law idx C ∈ am_tb) (h2 : Cond.instantiable C n ∈ am_tb) (h3 : Cond.initialized C ∈ am_tb) (hly : am_ly c0 = (4, ci)) (hdf : ∀ j, j < n → ∃ t, (am_ft ci)[j]? = some t ∧ defaultValue (ty j) = (if t = 0 then .int 0 else if t = 1 then .long 0 else .null)) (hc : AL[k]? = some c0) (hb : nwB c0 (AL.take k) AL (UL.drop r) lv st = true) (hz : Zr k M N) (h8 : c0.1 ≠ 8) (hr1 : cells + 1 ≤ 600000) (hr2 : slots + n ≤ 7302250)
    (kk : jm L xs (cells + 1) (slots + n) (k + 1) r (pc + 3) lv (.inr (.inr c0) :: st) M N) : jm L xs cells slots k r pc lv st M N := by
  intro D q cA p l e s m below meth c H locs ls hX ha hl
  obtain ⟨hx, hcd, hml, hown, hts, hK, hsk, hXs, hbl, hret, hlk⟩ := id hX
  have hw : nwC c0 (AL.take k) AL (UL.drop r) lv st M N := nw_ok hb (hz.at hc)
  obtain ⟨c1, c2, c3, c4, c5, c6⟩ := hcb
  refine va_new (A := fun z => s.heap.size ≤ z) hx hcd hts c2 ty c3 hown (hts _ h1) (hts _ h2) (hts _ h3) hK ha.1 ha.2.1 ha.2.2 (fun z h => h) c1 (fs := fsU q (UL.drop r) M N c0 (am_ft ci)) (fun j hj => ?_) hr1 hr2 hd (fun a H1 hP hD hS => ?_)
  · obtain ⟨t, ht, e⟩ := hdf j hj
    rw [e]
    unfold vp_V
    rw [List.getD_eq_getElem?_getD, fsU_at ht]
    show _ = fU q (UL.drop r) M N c0 j t
    by_cases t0 : t = 0
    · subst t0; rw [if_pos rfl]; show _ = Value.int (M c0 j); rw [hw.2.2.2.2.2.2.1 j]
    · rw [if_neg t0]
      by_cases t1 : t = 1
      · subst t1; rw [if_pos rfl]; show _ = Value.long (N c0 j); rw [hw.2.2.2.2.2.2.2 j]
      · rw [if_neg t1]
        have nin : (c0, j) ∉ UL.drop r := fun z => (hw.2.2.1 _ z).2 rfl
        unfold fU
        split
        · exact absurd rfl t0
        · exact absurd rfl t1
        · rw [if_neg nin]
  · rw [← eU_o (q := q) (cA := cA) (U := UL.drop r) (M := M) (N := N) hly] at hP hD
    obtain ⟨w1, w2, w3, w4, w5, w6, -, -⟩ := hw
    have e8 : qU q c0 a (8, 0, 0) = q (8, 0, 0) := qU_o (fun w => h8 (by rw [← w]))
    have e9 : ∀ i j, qU q c0 a (9, i, j) = q (9, i, j) := fun i j => qU_o (fun w => w4 (by rw [← w]))
    have es : (.inr (.inr c0) :: st : List am_V).map (am_v (qU q c0 a)) = .ref a :: st.map (am_v q) := by
      show Value.ref (qU q c0 a c0) :: st.map (am_v (qU q c0 a)) = _
      rw [qU_s, qU_st w6]
    rw [← wQ_new w1 (fun y hy => (w3 y hy).1), tk_s hc] at hP hD
    rw [← qU_lv (c0 := c0) (a := a) w5] at hl
    have K := kk D (qU q c0 a) cA p l e s m below meth c H1 locs ls (lwX_ag e8 e9 hX) ⟨hP, hD, hS⟩ hl
    rw [e8, es] at K
    exact K
set_option maxHeartbeats 1000000 in
theorem m_call {idx d' nc1 ns1 : Nat} {a : am_C} {ν : am_Y} {post1 : am_I → am_N → Prop} (hd : decode code pc = .ok (.invokespecial idx, 3)) (hs : (Cond.methodLink R_law idx ν.1 ∈ am_tb ∨ ∃ host, Cond.methodLinkNest R_law idx ν.1 host ∈ am_nst) ∧ Cond.instanceMethod ν.1 ∈ am_tb) (hB : am_MB ν 0) (hret : ν.2.2.2 = none) (hnm : ν.1.name = "<init>") (hlen : am_sz [(.inr (.inr a) : am_V)] ≤ ν.2.2.1) (hrest : am_sz st ≤ 8) (hdd : d' ≤ 100)
    (hJ : jn d' ν nc1 ns1 (AL.take k) (UL.drop r) 0 (am_args 0 [.inr (.inr a)]) [] M N (AL.take k1) (UL.drop r1) post1) (hlv : ∀ x ∈ lv, ∀ c, x.2 = .inr (.inr c) → c ∈ AL.take k ∨ c.1 = 8) (hsv : ∀ v ∈ st, ∀ c, v = .inr (.inr c) → c ∈ AL.take k ∨ c.1 = 8) (hr1 : cells + nc1 ≤ 600000) (hr2 : slots + ns1 ≤ 7302250)
    (kk : ∀ M' N', post1 M' N' → jm L xs (cells + nc1) (slots + ns1) k1 r1 (pc + 3) lv st M' N') : jm L xs cells slots k r pc lv (.inr (.inr a) :: st) M N := by
  intro D q cA p l e s m below meth c H locs ls hX ha hl
  obtain ⟨hx, hcd, hml, hown, hts, hK, hsk, hXs, hbl, hre, hlk⟩ := id hX
  have AL8 : ∀ c ∈ AL, c.1 ≠ 8 := by decide +kernel
  have hA : ∀ z, s.heap.size ≤ z → (fun z => s.heap.size ≤ z) z := fun z h => h
  have hM := n_met (As := [.inr (.inr a)]) hB hret hnm hlen hJ l D q cA H.size
  have hG := am_ws_good ν hB
  have hrm : (rmN d' nc1 ns1).frames + 1 ≤ room_1.frames ∧ 8 + (ν.2.2.1 + 11) + (rmN d' nc1 ns1).locals ≤ room_1.locals := by
    have h5 := hB.2.2.2.2
    show d' + 1 ≤ 2048 ∧ 8 + (ν.2.2.1 + 11) + 60 * d' ≤ 84000
    omega
  have hroom : 2 * (F0 m pc ls ((.inr (.inr a) :: st : List am_V).map (am_v q))).monitorRoom + ((st.map (am_v q)).map fun v => v.category).sum ≤ 8 := lv_room (by rw [am_cats]; exact hrest)
  obtain ⟨hP, hD, hS⟩ := ha
  have hsubA := am_sub hD hS hA
  have hpre : PreS s H (va_Pc ([.inr (.inr a)].map (am_v q)) (am_Pc D q cA (wQ q cA (UL.drop r) (AL.take k) M N) H.size)) (.ref (q a) :: []) := by
    refine ⟨fun a U g mk h => ?_, fun U hU hW => ⟨rfl, by rw [hU], by rw [hU]; exact hP, va_K.moved hW.alike hK, hD.weaken (fun _ _ _ _ => trivial), ?_⟩⟩
    · obtain ⟨h1, h2, h3, h4, h5, h6⟩ := h
      exact ⟨h1, h2, h3, va_K.moved (u := U) (U := U.calling g mk a) (Vm.Alike.refl U.vm) h4, h5, am_sK_call (s := U) rfl h6⟩
    · rw [hU]
      exact am_sK_in hW (fun a h1 h2 => hS.2.1 a h1 h2) hsubA hsk
  have run : va_Run p l e room_1 s m #[Value.ref (q (8, 0, 0))] below meth c H locs cells slots nc1 ns1 (F0 m pc ls ((.inr (.inr a) :: st : List am_V).map (am_v q))) (st.map (am_v q)) (QcN D cA (AL.take k) (AL.take k1) (UL.drop r1) q (wQ q cA (UL.drop r) (AL.take k) M N) H.size post1 (Value.ref (q a) :: []).toArray) (va_A (wQ q cA (UL.drop r) (AL.take k) M N) H.size) := by
    rcases hs.1 with h | ⟨host, h⟩
    · have cb := callB_of (R := room_1) (bytes := ν.2.1) (maxL := ν.2.2.1) (ret := ν.2.2.2) (mc := nc1) (ms := ns1) (rm := rmN d' nc1 ns1) 0 hts hG rfl rfl rfl (hts _ hB.2.2.1) (hts _ h) hB.2.2.2.1 hrm
      rw [hret] at cb
      exact va_runI ⟨hx, hcd, hml, hown, hts⟩ hM ⟨cb, hnm, hts _ hs.2⟩ hpre rfl rfl hl.1 rfl hroom hd ⟨hr1, hr2⟩
    · have cb := va_cnB (R := room_1) (bytes := ν.2.1) (maxL := ν.2.2.1) (ret := ν.2.2.2) (mc := nc1) (ms := ns1) (rm := rmN d' nc1 ns1) 0 hts hG rfl rfl rfl (hsk.2.2.2.2.2 _ h) (hts _ hB.2.2.1) hB.2.2.2.1 hrm
      rw [hret] at cb
      exact va_runIN ⟨hx, hcd, hml, hown, hts⟩ hM ⟨cb, hnm, hts _ hs.2⟩ hpre rfl rfl hl.1 rfl hroom hd ⟨hr1, hr2⟩
  intro T hT X
  obtain ⟨v, st₀, t, T', Lc, h0, X', hLc, e1, e2, ⟨⟨q', M', N', hv, hq, hp, hP1, hD1⟩, hz, hk⟩, stp⟩ := run T hT X
  cases hv
  rw [h0] at hz hk
  have q8 : ∀ c : am_C, c.1 = 8 → q' c = q c := fun c h => hq c (Or.inr (fun z => AL8 c (List.mem_of_mem_take z) h))
  have q9 : ∀ i j, q' (9, i, j) = q (9, i, j) := fun i j => hq _ (Or.inr (fun z => AL_9 _ (List.mem_of_mem_take z) rfl))
  have agv : ∀ v : am_V, (∀ c, v = .inr (.inr c) → c ∈ AL.take k ∨ c.1 = 8) → am_v q' v = am_v q v := fun v hv => by
    rcases v with x | x | x
    · rfl
    · rfl
    · show Value.ref (q' x) = Value.ref (q x)
      rcases hv x rfl with h | h
      · rw [hq x (Or.inl h)]
      · rw [q8 x h]
  have elv : am_lc q' lv = am_lc q lv := by
    unfold am_lc
    exact List.map_congr_left fun x hx => by rw [agv x.2 (fun c hc => hlv x hx c hc)]
  have est : st.map (am_v q') = st.map (am_v q) := List.map_congr_left fun v hv => agv v (fun c hc => hsv v hv c hc)
  have K := kk M' N' hp D q' cA p l e s m below meth c T'.heap (locs ++ Lc) ls (lwX_ag (q8 _ rfl) q9 hX)
    ⟨by rw [e1]; exact hP1, hD1.weaken (fun _ _ _ h => hsubA _ h), ⟨Nat.le_trans hS.1 (by rw [e1]; exact hz), fun z h1 h2 => by rw [e1, hk z (Nat.lt_of_lt_of_le h1 hS.1) (fun w => h2 (hsubA z w))]; exact hS.2.1 z h1 h2, fun z hz2 => by
      rcases List.mem_append.mp hz2 with h | h
      · exact hS.2.2 z h
      · exact hsubA _ (hLc z h)⟩⟩ (by rw [elv]; exact hl)
  rw [est, q8 _ rfl] at K
  obtain ⟨t2, a1, b1⟩ := K T' rfl X'
  exact ⟨t2, stp t2 a1, b1⟩
theorem AL_ful : ∀ c ∈ AL.take 122, fulC (UL.drop 0) c := ful_of (by decide +kernel)
theorem m_end (kk : jl L xs pc lv st M N) : jm L xs 122 lwS 122 0 pc lv st M N := by
  intro D q cA p l e s m below meth c H locs ls hX ha hl
  have ha' : am_at D q cA (fun z => s.heap.size ≤ z) AL M N s H locs := by
    obtain ⟨hP, hD, hS⟩ := ha
    rw [wQ_am AL_ful] at hP hD
    exact ⟨hP, hD, hS⟩
  exact kk D q cA p l e s m below meth c H locs ls hX ha' hl
end JM
