/-! ===== jn: calls ===== -/
def rmN (d nc ns : Nat) : Room := { frames := d, cells := nc, slots := ns, locals := 60 * d }
def QcN (D : va_G) (cA : Nat → ClassId) (dm dm2 : List am_C) (U2 : List (am_C × Nat)) (q : am_C → Nat) (w0 : va_W) (sz : Nat) (post : am_I → am_N → Prop) : Array Value → State → Outcome → State → Prop := fun _ st oc t =>
  (∃ (q' : am_C → Nat) (M' : am_I) (N' : am_N), oc = .returned none ∧ Agr dm dm2 q q' ∧ post M' N' ∧ va_P D am_cl (wQ q' cA U2 dm2 M' N') t.heap ∧ va_D (va_A w0 sz) (wQ q' cA U2 dm2 M' N')) ∧ va_F (va_A w0 sz) st t
section J3
variable {d d' nc ns nc1 ns1 : Nat} {μ ν : am_Y} {dm dm1 dm2 : List am_C} {U U1 U2 : List (am_C × Nat)} {pc : Nat} {lv : List (Nat × am_V)} {st : List am_V} {M M' : am_I} {N N' : am_N} {post post1 : am_I → am_N → Prop} {q q' : am_C → Nat} {cA : Nat → ClassId}
theorem am_sK_ag {A : Nat → Prop} {s : State} {H : Heap} (e : ∀ i j, q' (9, i, j) = q (9, i, j)) (h : am_sK q A s H) : am_sK q' A s H := by
  unfold am_sK at h ⊢
  have e1 : (fun i => q' (9, i, 0)) = fun i => q (9, i, 0) := funext fun i => e i 0
  have e2 : (fun i => q' (9, i, 1)) = fun i => q (9, i, 1) := funext fun i => e i 1
  rw [e1, e2, e 0 0, e 1 0]
  exact h
set_option maxHeartbeats 1000000 in
theorem n_met {n : Nat} {As : List am_V} (hB : am_MB ν n) (hret : ν.2.2.2 = none) (hnm : ν.1.name = "<init>") (hlen : am_sz As ≤ ν.2.2.1) (hJ : jn d ν nc ns dm U 0 (am_args 0 As) [] M N dm2 U2 post) (l : Launch) (D : va_G) (q : am_C → Nat) (cA : Nat → ClassId) (sz : Nat) :
    Met l ν.1 (am_ws ν) (rmN d nc ns) (va_Pc (As.map (am_v q)) (am_Pc D q cA (wQ q cA U dm M N) sz)) (QcN D cA dm dm2 U2 q (wQ q cA U dm M N) sz post) nc ns (va_A (wQ q cA U dm M N) sz) := by
  refine am_ofW (cc := ν.2.1) (maxL := ν.2.2.1) (ret := ν.2.2.2) hB.1 rfl ?_
  intro p e s m args below meth c s₁ B hml hv
  obtain ⟨rfl, hsz, hP, hK, hD0, hsk⟩ := hv
  have hts0 := atoms_spec (ws := am_ws ν) B.pre
  have hts : ∀ w ∈ am_tb, w.before (As.map (am_v q)).toArray s = true := fun w hw => hts0 w (List.mem_cons_of_mem _ hw)
  have hown : s.vm.findClass ν.1.cls = some m.cls := findClass_of_methodNamed B.named
  have hlocks := B.notSynchronized
  have hin : meth.name = "<init>" := (name_of_methodNamed B.named B.method).1.trans hnm
  subst hsz
  have hD := hD0.self (sz := s.heap.size)
  have hl := lv_entry (As.map (am_v q)) (n := ν.2.2.1) (by rw [am_sl_len]; exact hlen)
  rw [lg_entry_eq]
  rw [← am_args_lc q As 0] at hl
  refine hJ D q cA (va_A (wQ q cA U dm M N) s.heap.size) p l e (headSpec (am_ws ν) (rmN d nc ns)).room s m (As.map (am_v q)).toArray below meth c _ s.heap [] 0 0 _ ⟨B.exec, B.bytes, hml, hown, hts, hK, fun _ h => Or.inr h, Nat.le_refl _, Nat.le_refl _, by rw [Nat.zero_add]; exact Nat.le_refl _, by rw [Nat.zero_add]; exact Nat.le_refl _, hsk⟩ hin ?_ ⟨hP, hD, va_S.rf⟩ hl
  intro q' H' locs' pc' ls' M' N' hq ha hp hd
  have fin : ∀ t : State, t.heap = H' → s.WarmedH t.vm → QcN D cA dm dm2 U2 q (wQ q cA U dm M N) s.heap.size post (As.map (am_v q)).toArray s (.returned none) t := by
    intro t ht hW
    exact ⟨⟨q', M', N', rfl, hq, hp, by rw [ht]; exact ha.1, ha.2.1⟩, ha.2.2.F ht⟩
  rw [Nat.zero_add, Nat.zero_add]
  exact W.vret B.exec B.bytes (B.returns.trans hret) fin ha.2.2.2.2 hd
theorem ag_v {v : am_V} (hq : Agr dm dm2 q q') (h : ∀ c, v = .inr (.inr c) → c ∈ dm) : am_v q' v = am_v q v := by
  rcases v with x | x | x
  · rfl
  · rfl
  · show Value.ref (q' x) = Value.ref (q x)
    rw [hq x (Or.inl (h x rfl))]
set_option maxHeartbeats 1000000 in
theorem n_call {idx n : Nat} {a : am_C} {As stA : List am_V} (hd : decode μ.2.1 pc = .ok (.invokespecial idx, 3)) (hs : (Cond.methodLink μ.1.cls idx ν.1 ∈ am_tb ∨ ∃ host, Cond.methodLinkNest μ.1.cls idx ν.1 host ∈ am_nst) ∧ Cond.instanceMethod ν.1 ∈ am_tb) (hB : am_MB ν n) (hret : ν.2.2.2 = none) (hnm : ν.1.name = "<init>") (hn : As.length = n) (hst : stA = As.reverse ++ .inr (.inr a) :: st) (hlen : am_sz (.inr (.inr a) :: As) ≤ ν.2.2.1) (hrest : am_sz st ≤ 8) (hdd : d' < d)
    (hJ : jn d' ν nc1 ns1 dm U 0 (am_args 0 (.inr (.inr a) :: As)) [] M N dm1 U1 post1) (hin : ∀ c ∈ dm, c ∈ dm1) (hin2 : ∀ c ∈ dm1, c ∈ dm2) (h9 : ∀ c ∈ dm1, c.1 ≠ 9) (hlv : ∀ x ∈ lv, ∀ c, x.2 = .inr (.inr c) → c ∈ dm) (hsv : ∀ v ∈ st, ∀ c, v = .inr (.inr c) → c ∈ dm)
    (kk : ∀ M' N', post1 M' N' → jn d μ nc ns dm1 U1 (pc + 3) lv st M' N' dm2 U2 post) : jn d μ (nc1 + nc) (ns1 + ns) dm U pc lv stA M N dm2 U2 post := by
  intro D q cA A p l e R s m args below meth c Q H locs cells slots ls hX hi hr ha hl
  have hX0 := hX
  obtain ⟨hx, hb, hml, hown, hts, hK, hA, hf, hlo, hce, hslo, hsk⟩ := hX
  have hM := n_met hB hret hnm hlen hJ l D q cA H.size
  have hG := am_ws_good ν hB
  have hrm : (rmN d' nc1 ns1).frames + 1 ≤ R.frames ∧ 8 + (ν.2.2.1 + 11) + (rmN d' nc1 ns1).locals ≤ R.locals := by
    have h5 := hB.2.2.2.2
    show d' + 1 ≤ R.frames ∧ 8 + (ν.2.2.1 + 11) + 60 * d' ≤ R.locals
    omega
  have hstk : (stA.map (am_v q)) = (As.map (am_v q)).reverse ++ .ref (q a) :: st.map (am_v q) := by rw [hst, List.map_append, List.map_reverse]; rfl
  have hroom : 2 * (F0 m pc ls (stA.map (am_v q))).monitorRoom + ((st.map (am_v q)).map fun v => v.category).sum ≤ 8 := lv_room (by rw [am_cats]; exact hrest)
  obtain ⟨hP, hD, hS⟩ := ha
  have hsubA := am_sub hD hS hA
  have hpre : PreS s H (va_Pc ((.inr (.inr a) :: As : List am_V).map (am_v q)) (am_Pc D q cA (wQ q cA U dm M N) H.size)) ((.inr (.inr a) :: As : List am_V).map (am_v q)) := by
    refine ⟨fun a U g mk h => ?_, fun U hU hW => ⟨rfl, by rw [hU], by rw [hU]; exact hP, va_K.moved hW.alike hK, hD.weaken (fun _ _ _ _ => trivial), ?_⟩⟩
    · obtain ⟨h1, h2, h3, h4, h5, h6⟩ := h
      exact ⟨h1, h2, h3, va_K.moved (u := U) (U := U.calling g mk a) (Vm.Alike.refl U.vm) h4, h5, am_sK_call (s := U) rfl h6⟩
    · rw [hU]
      exact am_sK_in hW (fun a h1 h2 => hS.2.1 a h1 h2) hsubA hsk
  have hroom2 : cells + nc1 ≤ R.cells ∧ slots + ns1 ≤ R.slots := ⟨by omega, by omega⟩
  have run : va_Run p l e R s m args below meth c H locs cells slots nc1 ns1 (F0 m pc ls (stA.map (am_v q))) (st.map (am_v q)) (QcN D cA dm dm1 U1 q (wQ q cA U dm M N) H.size post1 (Value.ref (q a) :: As.map (am_v q)).toArray) (va_A (wQ q cA U dm M N) H.size) := by
    rcases hs.1 with h | ⟨host, h⟩
    · have cb := callB_of (R := R) (bytes := ν.2.1) (maxL := ν.2.2.1) (ret := ν.2.2.2) (mc := nc1) (ms := ns1) (rm := rmN d' nc1 ns1) n hts hG rfl rfl rfl (hts _ hB.2.2.1) (hts _ h) hB.2.2.2.1 hrm
      rw [hret] at cb
      exact va_runI ⟨hx, hb, hml, hown, hts⟩ hM ⟨cb, hnm, hts _ hs.2⟩ hpre rfl (by rw [List.length_map]; exact hn) hl.1 hstk hroom hd hroom2
    · have cb := va_cnB (R := R) (bytes := ν.2.1) (maxL := ν.2.2.1) (ret := ν.2.2.2) (mc := nc1) (ms := ns1) (rm := rmN d' nc1 ns1) n hts hG rfl rfl rfl (hsk.2.2.2.2.2 _ h) (hts _ hB.2.2.1) hB.2.2.2.1 hrm
      rw [hret] at cb
      exact va_runIN ⟨hx, hb, hml, hown, hts⟩ hM ⟨cb, hnm, hts _ hs.2⟩ hpre rfl (by rw [List.length_map]; exact hn) hl.1 hstk hroom hd hroom2
  intro T hT X
  obtain ⟨v, st₀, t, T', L, h0, X', hL, e1, e2, ⟨⟨q', M', N', hv, hq, hp, hP1, hD1⟩, hz, hk⟩, stp⟩ := run T hT X
  cases hv
  rw [h0] at hz hk
  have ec : cells + nc1 + nc = cells + (nc1 + nc) := by omega
  have es : slots + ns1 + ns = slots + (ns1 + ns) := by omega
  have q9 : ∀ i j, q' (9, i, j) = q (9, i, j) := fun i j => hq _ (Or.inr (fun z => h9 _ z rfl))
  have elv : am_lc q' lv = am_lc q lv := by
    unfold am_lc
    exact List.map_congr_left fun x hx => by rw [ag_v hq (fun c hc => hlv x hx c hc)]
  have est : st.map (am_v q') = st.map (am_v q) := List.map_congr_left fun v hv => ag_v hq (fun c hc => hsv v hv c hc)
  have K := kk M' N' hp D q' cA A p l e R s m args below meth c Q T'.heap (locs ++ L) (cells + nc1) (slots + ns1) ls ⟨hx, hb, hml, hown, hts, hK, hA, hf, hlo, by rw [ec]; exact hce, by rw [es]; exact hslo, am_sK_ag q9 hsk⟩ hi (fun q'' H' locs' pc' ls' M2 N2 hq2 ha2 hp2 hd2 => by
      rw [ec, es]
      refine hr q'' H' locs' pc' ls' M2 N2 (fun c hc => ?_) ha2 hp2 hd2
      rcases hc with hc | hc
      · rw [hq2 c (Or.inl (hin c hc)), hq c (Or.inl hc)]
      · rw [hq2 c (Or.inr hc), hq c (Or.inr (fun z => hc (hin2 c z)))])
    ⟨by rw [e1]; exact hP1, hD1.weaken (fun _ _ _ h => hsubA _ h), ⟨Nat.le_trans hS.1 (by rw [e1]; exact hz), fun z h1 h2 => by rw [e1, hk z (Nat.lt_of_lt_of_le h1 hS.1) (fun w => h2 (hsubA z w))]; exact hS.2.1 z h1 h2, fun z hz2 => by
      rcases List.mem_append.mp hz2 with h | h
      · exact hS.2.2 z h
      · exact hsubA _ (hL z h)⟩⟩ (by rw [elv]; exact hl)
  rw [est] at K
  obtain ⟨t2, a1, b1⟩ := K T' rfl X'
  exact ⟨t2, stp t2 a1, b1⟩
end J3
