/-! ===== calls ===== -/
def am_rm (d : Nat) : Room := { frames := d, cells := 0, slots := 0, locals := 60 * d }
def am_ws (ν : am_Y) : List Cond := Cond.code ν.1 ν.2.1 ν.2.2.1 ν.2.2.2 :: am_tb
def am_args : Nat → List am_V → List (Nat × am_V)
  | _, [] => []
  | i, v :: vs => (i, v) :: am_args (if am_cat v = 2 then i + 2 else i + 1) vs
theorem am_args_lc (q : am_C → Nat) (vs : List am_V) : ∀ i, am_lc q (am_args i vs) = lv_args i (vs.map (am_v q)) := by
  induction vs with
  | nil => intro i; rfl
  | cons v vs ih =>
    intro i
    show (i, am_v q v) :: am_lc q (am_args (if am_cat v = 2 then i + 2 else i + 1) vs) = (i, am_v q v) :: lv_args (if (am_v q v).category = 2 then i + 2 else i + 1) (vs.map (am_v q))
    rw [ih, am_cat_v]
def am_sz (vs : List am_V) : Nat := (vs.map am_cat).sum
theorem am_sl_len (q : am_C → Nat) (vs : List am_V) : (lg_sl (vs.map (am_v q))).length = am_sz vs := by
  induction vs with
  | nil => rfl
  | cons v vs ih =>
    unfold am_sz at ih ⊢
    simp only [List.map_cons, List.sum_cons, ← ih]
    rcases v with x | x | x <;> simp [lg_sl, am_v, am_cat, Value.category] <;> omega
/-- what is known of a method -/
def am_MB (ν : am_Y) (n : Nat) : Prop :=
  plainFor ν.1 = true ∧ Cond.code ν.1 ν.2.1 ν.2.2.1 ν.2.2.2 ∈ am_tb ∧ Cond.initialized ν.1.cls ∈ am_tb ∧ (ν.1.cls ≠ "java/lang/invoke/MethodHandle" ∧ ν.1.cls ≠ "java/lang/invoke/VarHandle" ∧ (parseMethodDescriptor ν.1.desc).map (fun d => d.parameters.length) = some n) ∧ ν.2.2.1 ≤ 41
def am_Qc (D : va_G) (q : am_C → Nat) (cA : Nat → ClassId) (dm : List am_C) (w0 : va_W) (sz : Nat) (post : Option am_V → am_I → am_N → Prop) : Array Value → State → Outcome → State → Prop := fun _ st oc t =>
  (∃ (v : Option am_V) (M' : am_I) (N' : am_N), oc = .returned (v.map (am_v q)) ∧ post v M' N' ∧ va_P D am_cl (am_w q cA dm M' N') t.heap ∧ va_D (va_A w0 sz) (am_w q cA dm M' N')) ∧ va_F (va_A w0 sz) st t
def am_Pc (D : va_G) (q : am_C → Nat) (cA : Nat → ClassId) (w0 : va_W) (sz : Nat) : State → Prop := fun U =>
  U.heap.size = sz ∧ va_P D am_cl w0 U.heap ∧ va_K D am_cl (am_tys cA) U ∧ va_D (fun _ => True) w0 ∧ am_sK q (va_A w0 sz) U U.heap
theorem am_ofW {l : Launch} {y : MethodName} {ws ws' : List Cond} {rm : Room} {Pc : Array Value → State → Prop} {Qc : Array Value → State → Outcome → State → Prop} {mc ms : Nat} {free : Addr → Prop} {cc : ByteArray} {maxL : Nat} {ret : Option FieldType}
    (hy : plainFor y = true) (hw : ws = Cond.code y cc maxL ret :: ws')
    (body : ∀ p e s m args below meth c s₁, BodyLoose p l y (headSpec ws rm) cc maxL ret e s m args below meth c s₁ → c.maxLocals = maxL → Pc args s →
      W p l e (headSpec ws rm).room s m args below meth c s.heap [] 0 0 (MQ below Qc args s mc ms free) (entryFrame m args maxL)) : Met l y ws rm Pc Qc mc ms free := by
  refine MetFree.of_bodySF (code := cc) (maxLocals := maxL) (ret := ret) hy ?_ ?_
  · intro args s m h hn
    obtain ⟨meth, c, h1, h2, h3, h4, h5, h6, -, -⟩ := Cond.code_spec hn (atoms_spec (ws := ws) h _ (by rw [hw]; exact List.mem_cons_self))
    exact ⟨meth, c, h1, h2, h3, h4, h5, h6⟩
  · intro p e s m args below meth c s₁ B hml hP _
    have hh0 : s₁.heap = s.heap := by rw [B.state]; rfl
    obtain ⟨t, a1, o, b1, b2, b3⟩ := body p e s m args below meth c s₁ B hml hP s₁ hh0 (Stand.of_body B)
    exact ⟨t, o, a1, b1, b2, ⟨b3.1, b3.2⟩⟩
set_option maxHeartbeats 1000000 in
/-- a method's judgement at its entry is its contract -/
theorem j_met {d n : Nat} {ν : am_Y} {dm : List am_C} {As : List am_V} {M : am_I} {N : am_N} {post : Option am_V → am_I → am_N → Prop} (hB : am_MB ν n) (hlen : am_sz As ≤ ν.2.2.1) (hJ : jg d ν dm 0 (am_args 0 As) [] M N post)
    (l : Launch) (D : va_G) (q : am_C → Nat) (cA : Nat → ClassId) (sz : Nat) :
    Met l ν.1 (am_ws ν) (am_rm d) (va_Pc (As.map (am_v q)) (am_Pc D q cA (am_w q cA dm M N) sz)) (am_Qc D q cA dm (am_w q cA dm M N) sz post) 0 0 (va_A (am_w q cA dm M N) sz) := by
  refine am_ofW (cc := ν.2.1) (maxL := ν.2.2.1) (ret := ν.2.2.2) hB.1 rfl ?_
  intro p e s m args below meth c s₁ B hml hv
  obtain ⟨rfl, hsz, hP, hK, hD0, hsk⟩ := hv
  have hts0 := atoms_spec (ws := am_ws ν) B.pre
  have hts : ∀ w ∈ am_tb, w.before (As.map (am_v q)).toArray s = true := fun w hw => hts0 w (List.mem_cons_of_mem _ hw)
  have hown : s.vm.findClass ν.1.cls = some m.cls := findClass_of_methodNamed B.named
  have hlocks := B.notSynchronized
  subst hsz
  have hD := hD0.self (sz := s.heap.size)
  have hl := lv_entry (As.map (am_v q)) (n := ν.2.2.1) (by rw [am_sl_len]; exact hlen)
  rw [lg_entry_eq]
  rw [← am_args_lc q As 0] at hl
  refine hJ D q cA (va_A (am_w q cA dm M N) s.heap.size) p l e (headSpec (am_ws ν) (am_rm d)).room s m (As.map (am_v q)).toArray below meth c _ s.heap [] 0 0 _ ⟨B.exec, B.bytes, hml, hown, hts, hK, fun _ h => Or.inr h, Nat.le_refl _, Nat.le_refl _, Nat.zero_le _, Nat.zero_le _, hsk⟩ ?_ ⟨hP, hD, va_S.rf⟩ hl
  intro H' locs' pc' ls' v M' N' ha hp hrt
  have fin : ∀ t : State, t.heap = H' → s.WarmedH t.vm → am_Qc D q cA dm (am_w q cA dm M N) s.heap.size post (As.map (am_v q)).toArray s (.returned (v.map (am_v q))) t := by
    intro t ht hW
    exact ⟨⟨v, M', N', rfl, hp, by rw [ht]; exact ha.1, ha.2.1⟩, ha.2.2.F ht⟩
  have hr := B.returns
  rcases v with _ | x | x | x
  · exact W.vret B.exec B.bytes (hr.trans hrt.2) fin ha.2.2.2.2 hrt.1
  · obtain ⟨h1, ty, h2, h3⟩ := hrt
    exact W.zret B.exec B.bytes (hr.trans h2) h3 fin ha.2.2.2.2 h1
  · exact W.lret B.exec B.bytes (hr.trans hrt.2) fin ha.2.2.2.2 hrt.1
  · exact absurd hrt id
theorem am_ws_good (ν : am_Y) {n : Nat} (hB : am_MB ν n) : GoodIn am_tb (am_ws ν) := by
  have h : ∀ w ∈ am_tb, w ∈ am_tb ∧ ((w.onTables && w.keeps) = true ∨ ∃ ty, w = .arrayClass ty) := fun w hw => ⟨hw, good_of_word (List.mem_filter.mp hw).2⟩
  intro w hw
  rcases List.mem_cons.mp hw with rfl | hw
  · exact h _ hB.2.1
  · exact h _ hw
section JC
variable {p : Program} {l : Launch} {e : Env} {R : Room} {s : State} {m : MethodId} {args : Array Value} {below : List Frame} {meth : Method} {c : Code} {H : Heap} {locs : List Loc} {cells slots : Nat} {Q : State → Prop}
theorem am_sub {A : Nat → Prop} {w0 : va_W} (hD : va_D A w0) (hS : va_S A s.heap H locs) (hA : ∀ q, s.heap.size ≤ q → A q) : ∀ q, va_A w0 H.size q → A q := by
  intro q h
  rcases h with ⟨k, e, h⟩ | h
  · exact hD.2 k _ h
  · exact hA q (Nat.le_trans hS.1 h)
theorem am_call {D : va_G} {q : am_C → Nat} {cA : Nat → ClassId} {A : Nat → Prop} {dm : List am_C} {M : am_I} {N : am_N} {post : Option am_V → am_I → am_N → Prop} {a : Array Value} {pc : Nat} {ls : Array Slot} {st0 rest : List Value}
    (hr : va_Run p l e R s m args below meth c H locs cells slots 0 0 (F0 m pc ls st0) rest (am_Qc D q cA dm (am_w q cA dm M N) H.size post a) (va_A (am_w q cA dm M N) H.size)) (ha : am_at D q cA A dm M N s H locs) (hA : ∀ q, s.heap.size ≤ q → A q)
    (kk : ∀ (v : Option am_V) (M' : am_I) (N' : am_N) (H1 : Heap) (locs1 : List Loc), post v M' N' → am_at D q cA A dm M' N' s H1 locs1 → W p l e R s m args below meth c H1 locs1 cells slots Q (F0 m (pc + 3) ls ((v.map (am_v q)).toList ++ rest))) : W p l e R s m args below meth c H locs cells slots Q (F0 m pc ls st0) := by
  obtain ⟨hP, hD, hS⟩ := ha
  have hsub := am_sub hD hS hA
  intro T hT X
  obtain ⟨v, st₀, t, T', L, h0, X', hL, e1, e2, ⟨⟨v', M', N', hv, hp, hP1, hD1⟩, hz, hk⟩, st⟩ := hr T hT X
  cases hv
  rw [h0] at hz hk
  obtain ⟨t2, a1, b1⟩ := kk v' M' N' T'.heap (locs ++ L) hp ⟨by rw [e1]; exact hP1, hD1.weaken (fun _ _ _ h => hsub _ h),
    ⟨Nat.le_trans hS.1 (by rw [e1]; exact hz), fun q h1 h2 => by rw [e1, hk q (Nat.lt_of_lt_of_le h1 hS.1) (fun z => h2 (hsub q z))]; exact hS.2.1 q h1 h2, fun q hq => by
      rcases List.mem_append.mp hq with h | h
      · exact hS.2.2 q h
      · exact hsub _ (hL q h)⟩⟩ T' rfl X'
  exact ⟨t2, st t2 a1, b1⟩
theorem am_pre {D : va_G} {q : am_C → Nat} {cA : Nat → ClassId} {A : Nat → Prop} {dm : List am_C} {M : am_I} {N : am_N} {As : List am_V} (hK : va_K D am_cl (am_tys cA) s) (hsk : am_sK q A s s.heap) (ha : am_at D q cA A dm M N s H locs) (hA : ∀ q, s.heap.size ≤ q → A q) :
    PreS s H (va_Pc (As.map (am_v q)) (am_Pc D q cA (am_w q cA dm M N) H.size)) (As.map (am_v q)) := by
  obtain ⟨hP, hD, hS⟩ := ha
  refine ⟨fun a U g mk h => ?_, fun U hU hW => ⟨rfl, by rw [hU], by rw [hU]; exact hP, va_K.moved hW.alike hK, hD.weaken (fun _ _ _ _ => trivial), ?_⟩⟩
  · obtain ⟨h1, h2, h3, h4, h5, h6⟩ := h
    exact ⟨h1, h2, h3, va_K.moved (u := U) (U := U.calling g mk a) (Vm.Alike.refl U.vm) h4, h5, am_sK_call (s := U) rfl h6⟩
  · rw [hU]
    exact am_sK_in hW (fun a h1 h2 => hS.2.1 a h1 h2) (am_sub hD hS hA) hsk
end JC
/-- a call of a static method -/
def am_SS (own : String) (idx : Nat) (ν : am_Y) : Prop := (Cond.methodLink own idx ν.1 ∈ am_tb ∨ ∃ host, Cond.methodLinkNest own idx ν.1 host ∈ am_nst) ∧ Cond.static ν.1 ∈ am_tb
/-- a call of an instance's method, which no class below overrides -/
def am_VS (own : String) (idx : Nat) (ν : am_Y) : Prop := (Cond.methodLink own idx ν.1 ∈ am_tb ∨ ∃ host, Cond.methodLinkNest own idx ν.1 host ∈ am_nst) ∧ Cond.instanceMethod ν.1 ∈ am_tb ∧ Cond.selects ν.1.cls ν.1 ν.1 ∈ am_tb
section JV
variable {d d' : Nat} {μ ν : am_Y} {dm : List am_C} {pc : Nat} {lv : List (Nat × am_V)} {st : List am_V} {M : am_I} {N : am_N} {post post2 : Option am_V → am_I → am_N → Prop}
theorem am_cats (q : am_C → Nat) (st : List am_V) : ((st.map (am_v q)).map fun v => v.category).sum = am_sz st := by
  unfold am_sz
  rw [List.map_map]
  congr 1
  exact List.map_congr_left fun v _ => am_cat_v q v
set_option maxHeartbeats 1000000 in
theorem j_invS {idx n : Nat} {As stA : List am_V} (hd : decode μ.2.1 pc = .ok (.invokestatic idx, 3)) (hs : am_SS μ.1.cls idx ν) (hB : am_MB ν n) (hn : As.length = n) (hst : stA = As.reverse ++ st) (hlen : am_sz As ≤ ν.2.2.1) (hrest : am_sz st ≤ 8) (hdd : d' < d)
    (hJ : jg d' ν dm 0 (am_args 0 As) [] M N post2) (kk : ∀ v M' N', post2 v M' N' → jg d μ dm (pc + 3) lv (v.toList ++ st) M' N' post) : jg d μ dm pc lv stA M N post := by
  intro D q cA A p l e R s m args below meth c Q H locs cells slots ls hX hr ha hl
  obtain ⟨hx, hb, hml, hown, hts, hK, hA, hf, hlo, hce, hslo, hsk⟩ := id hX
  have hM := j_met hB hlen hJ l D q cA H.size
  have hG := am_ws_good ν hB
  have hrm : (am_rm d').frames + 1 ≤ R.frames ∧ 8 + (ν.2.2.1 + 11) + (am_rm d').locals ≤ R.locals := by
    have h5 := hB.2.2.2.2
    show d' + 1 ≤ R.frames ∧ 8 + (ν.2.2.1 + 11) + 60 * d' ≤ R.locals
    omega
  have hstk : (stA.map (am_v q)) = (As.map (am_v q)).reverse ++ st.map (am_v q) := by rw [hst, List.map_append, List.map_reverse]
  have hroom : 2 * (F0 m pc ls (stA.map (am_v q))).monitorRoom + ((st.map (am_v q)).map fun v => v.category).sum ≤ 8 := lv_room (by rw [am_cats]; exact hrest)
  have run : va_Run p l e R s m args below meth c H locs cells slots 0 0 (F0 m pc ls (stA.map (am_v q))) (st.map (am_v q)) (am_Qc D q cA dm (am_w q cA dm M N) H.size post2 (As.map (am_v q)).toArray) (va_A (am_w q cA dm M N) H.size) := by
    rcases hs.1 with h | ⟨host, h⟩
    · exact va_runS ⟨hx, hb, hml, hown, hts⟩ hM ⟨callB_of n hts hG rfl rfl rfl (hts _ hB.2.2.1) (hts _ h) hB.2.2.2.1 hrm, hts _ hs.2⟩ (am_pre hK hsk ha hA) rfl (by rw [List.length_map]; exact hn) hl.1 hstk hroom hd ⟨hce, hslo⟩
    · exact va_runSN ⟨hx, hb, hml, hown, hts⟩ hM ⟨va_cnB n hts hG rfl rfl rfl (hsk.2.2.2.2.2 _ h) (hts _ hB.2.2.1) hB.2.2.2.1 hrm, hts _ hs.2, trivial⟩ (am_pre hK hsk ha hA) rfl (by rw [List.length_map]; exact hn) hl.1 hstk hroom hd ⟨hce, hslo⟩
  refine am_call run ha hA (fun v M' N' H1 locs1 hp ha1 => ?_)
  have := kk v M' N' hp D q cA A p l e R s m args below meth c Q H1 locs1 cells slots ls hX hr ha1 hl
  cases v with
  | none => exact this
  | some v => exact this
set_option maxHeartbeats 1000000 in
theorem j_invV {idx n ci : Nat} {a : am_C} {T : u_T} {nf : Nat} {As stA : List am_V} (hd : decode μ.2.1 pc = .ok (.invokevirtual idx, 3)) (hs : am_VS μ.1.cls idx ν) (hB : am_MB ν n) (hn : As.length = n) (hst : stA = As.reverse ++ .inr (.inr a) :: st) (hlen : am_sz (.inr (.inr a) :: As) ≤ ν.2.2.1) (hrest : am_sz st ≤ 8) (hdd : d' < d)
    (hc : a ∈ dm) (hly : am_ly a = (4, ci)) (hcl : am_cl[ci]? = some (ν.1.cls, T, nf))
    (hJ : jg d' ν dm 0 (am_args 0 (.inr (.inr a) :: As)) [] M N post2) (kk : ∀ v M' N', post2 v M' N' → jg d μ dm (pc + 3) lv (v.toList ++ st) M' N' post) : jg d μ dm pc lv stA M N post := by
  intro D q cA A p l e R s m args below meth c Q H locs cells slots ls hX hr ha hl
  obtain ⟨hx, hb, hml, hown, hts, hK, hA, hf, hlo, hce, hslo, hsk⟩ := id hX
  have hM := j_met hB hlen hJ l D q cA H.size
  have hG := am_ws_good ν hB
  have hrm : (am_rm d').frames + 1 ≤ R.frames ∧ 8 + (ν.2.2.1 + 11) + (am_rm d').locals ≤ R.locals := by
    have h5 := hB.2.2.2.2
    show d' + 1 ≤ R.frames ∧ 8 + (ν.2.2.1 + 11) + 60 * d' ≤ R.locals
    omega
  have hstk : (stA.map (am_v q)) = (As.map (am_v q)).reverse ++ .ref (q a) :: st.map (am_v q) := by rw [hst, List.map_append, List.map_reverse]; rfl
  have hroom : 2 * (F0 m pc ls (stA.map (am_v q))).monitorRoom + ((st.map (am_v q)).map fun v => v.category).sum ≤ 8 := lv_room (by rw [am_cats]; exact hrest)
  obtain ⟨k0, h0⟩ := List.getElem?_of_mem hc
  have he := am_w_at (q := q) (cA := cA) (M := M) (N := N) h0
  rw [am_e_o hly] at he
  have hpre := am_pre (As := .inr (.inr a) :: As) hK hsk ha hA
  have run : va_Run p l e R s m args below meth c H locs cells slots 0 0 (F0 m pc ls (stA.map (am_v q))) (st.map (am_v q)) (am_Qc D q cA dm (am_w q cA dm M N) H.size post2 (Value.ref (q a) :: As.map (am_v q)).toArray) (va_A (am_w q cA dm M N) H.size) := by
    rcases hs.1 with h | ⟨host, h⟩
    · exact va_runV (C := ν.1.cls) ⟨hx, hb, hml, hown, hts⟩ hM ⟨callB_of n hts hG rfl rfl rfl (hts _ hB.2.2.1) (hts _ h) hB.2.2.2.1 hrm, hts _ hs.2.1, hts _ hs.2.2⟩ ⟨hpre.1, va_recv hK ha.1 hcl he, hpre.2⟩ rfl (by rw [List.length_map]; exact hn) hl.1 hstk hroom hd ⟨hce, hslo⟩
    · exact va_runVN (C := ν.1.cls) ⟨hx, hb, hml, hown, hts⟩ hM ⟨va_cnB n hts hG rfl rfl rfl (hsk.2.2.2.2.2 _ h) (hts _ hB.2.2.1) hB.2.2.2.1 hrm, hts _ hs.2.1, hts _ hs.2.2⟩ ⟨hpre.1, va_recv hK ha.1 hcl he, hpre.2⟩ rfl (by rw [List.length_map]; exact hn) hl.1 hstk hroom hd ⟨hce, hslo⟩
  refine am_call run ha hA (fun v M' N' H1 locs1 hp ha1 => ?_)
  have := kk v M' N' hp D q cA A p l e R s m args below meth c Q H1 locs1 cells slots ls hX hr ha1 hl
  cases v with
  | none => exact this
  | some v => exact this
end JV
