/-! ===== the judgement jn: a constructor; cells are made, references are null until they are set ===== -/
def fU (q : am_C → Nat) (U : List (am_C × Nat)) (M : am_I) (N : am_N) (c : am_C) (j t : Nat) : Value := match t with
  | 0 => .int (M c j)
  | 1 => .long (N c j)
  | _ => if (c, j) ∈ U then .ref (q (am_pt c j)) else .null
def fsU (q : am_C → Nat) (U : List (am_C × Nat)) (M : am_I) (N : am_N) (c : am_C) (ts : List Nat) : List Value := (List.range ts.length).map (fun j => fU q U M N c j (ts.getD j 0))
def eU (q : am_C → Nat) (cA : Nat → ClassId) (U : List (am_C × Nat)) (M : am_I) (N : am_N) (c : am_C) : va_E := match am_ly c with
  | (0, n) => .inl (cA 0, n, .inl (M c))
  | (1, n) => .inl (cA 1, n, .inr (.inl (N c)))
  | (2, n) => .inl (cA 2, n, .inl (M c))
  | (3, n) => .inl (cA 3, n, .inl (M c))
  | (_, ci) => .inr (ci, fsU q U M N c (am_ft ci))
def wQ (q : am_C → Nat) (cA : Nat → ClassId) (U : List (am_C × Nat)) (dm : List am_C) (M : am_I) (N : am_N) : va_W := dm.map (fun c => (q c, eU q cA U M N c))
def atU (D : va_G) (q : am_C → Nat) (cA : Nat → ClassId) (A : Nat → Prop) (U : List (am_C × Nat)) (dm : List am_C) (M : am_I) (N : am_N) (s : State) (H : Heap) (locs : List Loc) : Prop :=
  va_P D am_cl (wQ q cA U dm M N) H ∧ va_D A (wQ q cA U dm M N) ∧ va_S A s.heap H locs
def Agr (dm dm2 : List am_C) (q q' : am_C → Nat) : Prop := ∀ c, (c ∈ dm ∨ c ∉ dm2) → q' c = q c
def jn (d : Nat) (μ : am_Y) (nc ns : Nat) (dm : List am_C) (U : List (am_C × Nat)) (pc : Nat) (lv : List (Nat × am_V)) (st : List am_V) (M : am_I) (N : am_N) (dm2 : List am_C) (U2 : List (am_C × Nat)) (post : am_I → am_N → Prop) : Prop :=
  ∀ (D : va_G) (q : am_C → Nat) (cA : Nat → ClassId) (A : Nat → Prop) (p : Program) (l : Launch) (e : Env) (R : Room) (s : State) (m : MethodId) (args : Array Value) (below : List Frame) (meth : Method) (c : Code) (Q : State → Prop) (H : Heap) (locs : List Loc) (cells slots : Nat) (ls : Array Slot),
    am_X d μ D cA A q p R s m args c (cells + nc) (slots + ns) → meth.name = "<init>" →
    (∀ (q' : am_C → Nat) (H' : Heap) (locs' : List Loc) (pc' : Nat) (ls' : Array Slot) (M' : am_I) (N' : am_N), Agr dm dm2 q q' → atU D q' cA A U2 dm2 M' N' s H' locs' → post M' N' → decode μ.2.1 pc' = .ok (.return_, 1) → W p l e R s m args below meth c H' locs' (cells + nc) (slots + ns) Q (F0 m pc' ls' [])) →
    atU D q cA A U dm M N s H locs → lv_has ls μ.2.2.1 (am_lc q lv) → W p l e R s m args below meth c H locs cells slots Q (F0 m pc ls (st.map (am_v q)))
section JN
variable {d nc ns : Nat} {μ : am_Y} {dm dm2 : List am_C} {U U2 : List (am_C × Nat)} {pc : Nat} {lv : List (Nat × am_V)} {st : List am_V} {M M' : am_I} {N N' : am_N} {post : am_I → am_N → Prop} {q q' : am_C → Nat} {cA : Nat → ClassId}
theorem wQ_at {k0 : Nat} {c : am_C} (h : dm[k0]? = some c) : (wQ q cA U dm M N)[k0]? = some (q c, eU q cA U M N c) := by
  simp [wQ, h]
theorem eU_o {c : am_C} {ci : Nat} (h : am_ly c = (4, ci)) : eU q cA U M N c = .inr (ci, fsU q U M N c (am_ft ci)) := by unfold eU; rw [h]; rfl
theorem fsU_at {c : am_C} {ts : List Nat} {k t : Nat} (h : ts[k]? = some t) : (fsU q U M N c ts)[k]? = some (fU q U M N c k t) := by
  have hl := (List.getElem?_eq_some_iff.mp h).1
  have h2 := (List.getElem?_eq_some_iff.mp h).2
  simp [fsU, hl, List.getD_eq_getElem?_getD, h2]
theorem fsU_len {c : am_C} {ts : List Nat} : (fsU q U M N c ts).length = ts.length := by simp [fsU]
theorem eU_congr {U' : List (am_C × Nat)} {c : am_C} (h1 : M c = M' c) (h2 : N c = N' c) (h3 : ∀ j, (c, j) ∈ U ↔ (c, j) ∈ U') (h4 : ∀ j, (c, j) ∈ U → q (am_pt c j) = q' (am_pt c j)) : eU q cA U M N c = eU q' cA U' M' N' c := by
  have e : ∀ ts, fsU q U M N c ts = fsU q' U' M' N' c ts := by
    intro ts
    unfold fsU
    refine List.map_congr_left fun j _ => ?_
    unfold fU
    split
    · rw [h1]
    · rw [h2]
    · by_cases hj : (c, j) ∈ U
      · rw [if_pos hj, if_pos ((h3 j).mp hj), h4 j hj]
      · rw [if_neg hj, if_neg (fun w => hj ((h3 j).mpr w))]
  unfold eU
  split
  · rw [h1]
  · rw [h2]
  · rw [h1]
  · rw [h1]
  · rw [e]
theorem wQ_set {U' : List (am_C × Nat)} {A : Nat → Prop} {k0 : Nat} {c : am_C} (hD : va_D A (wQ q cA U dm M N)) (h : dm[k0]? = some c) (hM : ∀ c', c' ≠ c → M' c' = M c') (hN : ∀ c', c' ≠ c → N' c' = N c') (hU : ∀ c', c' ≠ c → ∀ j, (c', j) ∈ U' ↔ (c', j) ∈ U) :
    (wQ q cA U dm M N).set k0 (q c, eU q cA U' M' N' c) = wQ q cA U' dm M' N' := by
  apply List.ext_getElem?
  intro i
  by_cases hi : i = k0
  · subst hi
    have hl : i < (wQ q cA U dm M N).length := (List.getElem?_eq_some_iff.mp (wQ_at h)).1
    rw [List.getElem?_set_self hl, wQ_at h]
  · rw [List.getElem?_set_ne (Ne.symm hi)]
    cases hc : dm[i]? with
    | none => simp [wQ, hc]
    | some c' =>
      rw [wQ_at hc, wQ_at hc]
      have hne : c' ≠ c := by
        intro z
        subst z
        exact hi (hD.1 i k0 _ _ (wQ_at hc) (wQ_at h) rfl)
      rw [eU_congr (hM c' hne).symm (hN c' hne).symm (fun j => (hU c' hne j).symm) (fun _ _ => rfl)]
theorem fsU_set {U' : List (am_C × Nat)} {c : am_C} {ts : List Nat} {k t : Nat} (h : ts[k]? = some t) (hM : ∀ j, j ≠ k → M' c j = M c j) (hN : ∀ j, j ≠ k → N' c j = N c j) (hU : ∀ j, j ≠ k → ((c, j) ∈ U' ↔ (c, j) ∈ U)) :
    (fsU q U M N c ts).set k (fU q U' M' N' c k t) = fsU q U' M' N' c ts := by
  apply List.ext_getElem?
  intro i
  by_cases hi : i = k
  · subst hi
    have hl : i < (fsU q U M N c ts).length := (List.getElem?_eq_some_iff.mp (fsU_at h)).1
    rw [List.getElem?_set_self hl, fsU_at h]
  · rw [List.getElem?_set_ne (Ne.symm hi)]
    cases hc : ts[i]? with
    | none =>
      have h1 : ts.length ≤ i := List.getElem?_eq_none_iff.mp hc
      rw [List.getElem?_eq_none (by rw [fsU_len]; exact h1), List.getElem?_eq_none (by rw [fsU_len]; exact h1)]
    | some t' =>
      rw [fsU_at hc, fsU_at hc]
      unfold fU
      split
      · rw [hM i hi]
      · rw [hN i hi]
      · by_cases hj : (c, i) ∈ U
        · rw [if_pos hj, if_pos ((hU i hi).mpr hj)]
        · rw [if_neg hj, if_neg (fun w => hj ((hU i hi).mp w))]
theorem n_aload_n (k : Nat) {n : Fin 4} {x : am_C} (hd : decode μ.2.1 pc = .ok (.aload_n n, 1)) (hk : lv[k]? = some ((n : Nat), .inr (.inr x))) (kk : jn d μ nc ns dm U (pc + 1) lv (.inr (.inr x) :: st) M N dm2 U2 post) : jn d μ nc ns dm U pc lv st M N dm2 U2 post :=
  fun D q cA A p l e R s m args below meth c Q H locs cells slots ls hX hi hr ha hl => lv_aload_n hX.1 hX.2.1 hd rfl (lv_at hl k (am_lc_at hk)) (kk D q cA A p l e R s m args below meth c Q H locs cells slots ls hX hi hr ha hl)
theorem n_iload_n (k : Nat) {n : Fin 4} {x : Int32} (hd : decode μ.2.1 pc = .ok (.iload_n n, 1)) (hk : lv[k]? = some ((n : Nat), .inl x)) (kk : jn d μ nc ns dm U (pc + 1) lv (.inl x :: st) M N dm2 U2 post) : jn d μ nc ns dm U pc lv st M N dm2 U2 post :=
  fun D q cA A p l e R s m args below meth c Q H locs cells slots ls hX hi hr ha hl => lv_iload_n hX.1 hX.2.1 hd rfl (lv_at hl k (am_lc_at hk)) (kk D q cA A p l e R s m args below meth c Q H locs cells slots ls hX hi hr ha hl)
theorem n_dup {v : am_V} (hd : decode μ.2.1 pc = .ok (.dup, 1)) (hv : am_cat v = 1) (kk : jn d μ nc ns dm U (pc + 1) lv (v :: v :: st) M N dm2 U2 post) : jn d μ nc ns dm U pc lv (v :: st) M N dm2 U2 post :=
  fun D q cA A p l e R s m args below meth c Q H locs cells slots ls hX hi hr ha hl => lv_dup hX.1 hX.2.1 hd ((am_cat_v q v).trans hv) (kk D q cA A p l e R s m args below meth c Q H locs cells slots ls hX hi hr ha hl)
theorem n_imul {x y : Int32} (hd : decode μ.2.1 pc = .ok (.imul, 1)) (kk : jn d μ nc ns dm U (pc + 1) lv (.inl (x * y) :: st) M N dm2 U2 post) : jn d μ nc ns dm U pc lv (.inl y :: .inl x :: st) M N dm2 U2 post :=
  fun D q cA A p l e R s m args below meth c Q H locs cells slots ls hX hi hr ha hl => lv_imul hX.1 hX.2.1 hd (kk D q cA A p l e R s m args below meth c Q H locs cells slots ls hX hi hr ha hl)
theorem n_ret (hd : decode μ.2.1 pc = .ok (.return_, 1)) (hp : post M N) : jn d μ 0 0 dm U pc lv [] M N dm U post :=
  fun D q cA A p l e R s m args below meth c Q H locs cells slots ls hX hi hr ha hl => hr q H locs pc ls M N (fun _ _ => rfl) ha hp hd
theorem n_iconst {n : Int} {v : Int32} (hd : decode μ.2.1 pc = .ok (.iconst n, 1)) (hv : Int32.ofInt n = v) (kk : jn d μ nc ns dm U (pc + 1) lv (.inl v :: st) M N dm2 U2 post) : jn d μ nc ns dm U pc lv st M N dm2 U2 post :=
  fun D q cA A p l e R s m args below meth c Q H locs cells slots ls hX hi hr ha hl => lv_iconst hX.1 hX.2.1 hd hv (kk D q cA A p l e R s m args below meth c Q H locs cells slots ls hX hi hr ha hl)
theorem n_bipush {n : Int} {v : Int32} (hd : decode μ.2.1 pc = .ok (.bipush n, 2)) (hv : (Int8.ofInt n).toInt32 = v) (kk : jn d μ nc ns dm U (pc + 2) lv (.inl v :: st) M N dm2 U2 post) : jn d μ nc ns dm U pc lv st M N dm2 U2 post :=
  fun D q cA A p l e R s m args below meth c Q H locs cells slots ls hX hi hr ha hl => lv_bipush hX.1 hX.2.1 hd hv (kk D q cA A p l e R s m args below meth c Q H locs cells slots ls hX hi hr ha hl)
theorem n_sipush {n : Int} {v : Int32} (hd : decode μ.2.1 pc = .ok (.sipush n, 3)) (hv : (Int16.ofInt n).toInt32 = v) (kk : jn d μ nc ns dm U (pc + 3) lv (.inl v :: st) M N dm2 U2 post) : jn d μ nc ns dm U pc lv st M N dm2 U2 post :=
  fun D q cA A p l e R s m args below meth c Q H locs cells slots ls hX hi hr ha hl => lv_sipush hX.1 hX.2.1 hd hv (kk D q cA A p l e R s m args below meth c Q H locs cells slots ls hX hi hr ha hl)
/-- Object's constructor -/
theorem n_objI {idx : Nat} {a : am_C} (hd : decode μ.2.1 pc = .ok (.invokespecial idx, 3)) (h1 : Cond.methodLink μ.1.cls idx Lib.objectInit ∈ am_tb) (h2 : Cond.instanceMethod Lib.objectInit ∈ am_tb) (h3 : Cond.code Lib.objectInit ⟨#[0xb1]⟩ 1 none ∈ am_tb) (hst : am_sz st ≤ 8) (hdd : 1 ≤ d) (kk : jn d μ nc ns dm U (pc + 3) lv st M N dm2 U2 post) : jn d μ nc ns dm U pc lv (.inr (.inr a) :: st) M N dm2 U2 post := by
  intro D q cA A p l e R s m args below meth c Q H locs cells slots ls hX hi hr ha hl
  obtain ⟨hx, hb, hml, hown, hts, hK, hA, hf, hlo, hce, hslo, hsk⟩ := id hX
  have hroom : 2 * (F0 m pc ls ((.inr (.inr a) :: st : List am_V).map (am_v q))).monitorRoom + ((st.map (am_v q)).map fun v => v.category).sum ≤ 8 := lv_room (by rw [am_cats]; exact hst)
  refine W.objInit hx hb hown (hts _ h1) (hts _ h2) (hts _ h3) (g := F0 m pc ls ((.inr (.inr a) :: st : List am_V).map (am_v q))) rfl (by rw [hml]; exact hl.1) rfl hd (by omega) (by omega) ?_
  exact kk D q cA A p l e R s m args below meth c Q H locs cells slots ls hX hi hr ha hl
/-- a new name for a new cell -/
def qU (q : am_C → Nat) (c0 : am_C) (a : Nat) : am_C → Nat := fun c => if c = c0 then a else q c
theorem qU_s {c0 : am_C} {a : Nat} : qU q c0 a c0 = a := if_pos rfl
theorem qU_o {c c0 : am_C} {a : Nat} (h : c ≠ c0) : qU q c0 a c = q c := if_neg h
theorem qU_v {c0 : am_C} {a : Nat} {v : am_V} (h : v ≠ .inr (.inr c0)) : am_v (qU q c0 a) v = am_v q v := by
  rcases v with x | x | x
  · rfl
  · rfl
  · show Value.ref (qU q c0 a x) = _
    rw [qU_o (fun w => h (by rw [w]))]
    rfl
theorem qU_st {c0 : am_C} {a : Nat} (h : ∀ v ∈ st, v ≠ .inr (.inr c0)) : st.map (am_v (qU q c0 a)) = st.map (am_v q) := List.map_congr_left fun v hv => qU_v (h v hv)
theorem qU_lv {c0 : am_C} {a : Nat} (h : ∀ x ∈ lv, x.2 ≠ .inr (.inr c0)) : am_lc (qU q c0 a) lv = am_lc q lv := by
  unfold am_lc
  exact List.map_congr_left fun x hx => by rw [qU_v (h x hx)]
theorem qU_sK {c0 : am_C} {a : Nat} {A : Nat → Prop} {s : State} {H : Heap} (h9 : c0.1 ≠ 9) (h : am_sK q A s H) : am_sK (qU q c0 a) A s H := by
  have e : ∀ i j, qU q c0 a (9, i, j) = q (9, i, j) := fun i j => qU_o (fun w => h9 (by rw [← w]))
  unfold am_sK at h ⊢
  have e1 : (fun i => qU q c0 a (9, i, 0)) = fun i => q (9, i, 0) := funext fun i => e i 0
  have e2 : (fun i => qU q c0 a (9, i, 1)) = fun i => q (9, i, 1) := funext fun i => e i 1
  rw [e1, e2, e 0 0, e 1 0]
  exact h
theorem wQ_new {c0 : am_C} {a : Nat} (h : c0 ∉ dm) (hpt : ∀ x ∈ U, am_pt x.1 x.2 ≠ c0) : wQ (qU q c0 a) cA U (dm ++ [c0]) M N = wQ q cA U dm M N ++ [(a, eU q cA U M N c0)] := by
  have e : ∀ c, eU (qU q c0 a) cA U M N c = eU q cA U M N c := fun c => eU_congr rfl rfl (fun _ => Iff.rfl) (fun j hj => qU_o (hpt _ hj))
  unfold wQ
  rw [List.map_append]
  congr 1
  · refine List.map_congr_left fun c hc => ?_
    rw [e, qU_o (fun w => h (by rw [← w]; exact hc))]
  · show [(qU q c0 a c0, eU (qU q c0 a) cA U M N c0)] = _
    rw [qU_s, e]
theorem Agr.new {c0 : am_C} {a : Nat} (h : c0 ∉ dm) (h2 : c0 ∈ dm2) (hq : Agr (dm ++ [c0]) dm2 (qU q c0 a) q') : Agr dm dm2 q q' := by
  intro c hc
  have hne : c ≠ c0 := fun w => by
    rcases hc with hc | hc
    · rw [w] at hc; exact h hc
    · rw [w] at hc; exact hc h2
  rw [hq c (hc.imp (fun z => List.mem_append_left _ z) id), qU_o hne]
/-- what is asked of a new cell -/
def nwC (c0 : am_C) (dm dm2 : List am_C) (U : List (am_C × Nat)) (lv : List (Nat × am_V)) (st : List am_V) (M : am_I) (N : am_N) : Prop :=
  c0 ∉ dm ∧ c0 ∈ dm2 ∧ (∀ x ∈ U, am_pt x.1 x.2 ≠ c0 ∧ x.1 ≠ c0) ∧ c0.1 ≠ 9 ∧ (∀ x ∈ lv, x.2 ≠ .inr (.inr c0)) ∧ (∀ v ∈ st, v ≠ .inr (.inr c0)) ∧ (∀ j, M c0 j = 0) ∧ ∀ j, N c0 j = 0
theorem n_next {c0 : am_C} {k a : Nat} {D : va_G} {A : Nat → Prop} {p : Program} {l : Launch} {e : Env} {R : Room} {s : State} {m : MethodId} {args : Array Value} {below : List Frame} {meth : Method} {c : Code} {Q : State → Prop} {H1 : Heap} {locs : List Loc} {cells slots n : Nat} {ls : Array Slot} (hw : nwC c0 dm dm2 U lv st M N) (hX : am_X d μ D cA A q p R s m args c (cells + (nc + 1)) (slots + (ns + n))) (hi : meth.name = "<init>")
    (hr : ∀ (q' : am_C → Nat) (H' : Heap) (locs' : List Loc) (pc' : Nat) (ls' : Array Slot) (M' : am_I) (N' : am_N), Agr dm dm2 q q' → atU D q' cA A U2 dm2 M' N' s H' locs' → post M' N' → decode μ.2.1 pc' = .ok (.return_, 1) → W p l e R s m args below meth c H' locs' (cells + (nc + 1)) (slots + (ns + n)) Q (F0 m pc' ls' []))
    (hP : va_P D am_cl (wQ q cA U dm M N ++ [(a, eU q cA U M N c0)]) H1) (hD : va_D A (wQ q cA U dm M N ++ [(a, eU q cA U M N c0)])) (hS : va_S A s.heap H1 locs) (hl : lv_has ls μ.2.2.1 (am_lc q lv))
    (kk : jn d μ nc ns (dm ++ [c0]) U k lv (.inr (.inr c0) :: st) M N dm2 U2 post) : W p l e R s m args below meth c H1 locs (cells + 1) (slots + n) Q (F0 m k ls (.ref a :: st.map (am_v q))) := by
  obtain ⟨h1, h2, h3, h4, h5, h6, -, -⟩ := hw
  have e1 : cells + 1 + nc = cells + (nc + 1) := by omega
  have e2 : slots + n + ns = slots + (ns + n) := by omega
  have es : (.inr (.inr c0) :: st : List am_V).map (am_v (qU q c0 a)) = .ref a :: st.map (am_v q) := by
    show Value.ref (qU q c0 a c0) :: st.map (am_v (qU q c0 a)) = _
    rw [qU_s, qU_st h6]
  rw [← es]
  rw [← wQ_new h1 (fun x hx => (h3 x hx).1)] at hP hD
  rw [← qU_lv (c0 := c0) (a := a) h5] at hl
  obtain ⟨hx, hb, hml, hown, hts, hK, hA, hf, hlo, hce, hslo, hsk⟩ := hX
  refine kk D (qU q c0 a) cA A p l e R s m args below meth c Q H1 locs (cells + 1) (slots + n) ls ⟨hx, hb, hml, hown, hts, hK, hA, hf, hlo, by rw [e1]; exact hce, by rw [e2]; exact hslo, qU_sK h4 hsk⟩ hi ?_ ⟨hP, hD, hS⟩ hl
  intro q' H' locs' pc' ls' M' N' hq ha hp hd
  rw [e1, e2]
  exact hr q' H' locs' pc' ls' M' N' (Agr.new h1 h2 hq) ha hp hd
/-- a new object -/
theorem n_new {c0 : am_C} {idx ci n : Nat} {C : String} {T : u_T} {ty : Nat → FieldType} (hd : decode μ.2.1 pc = .ok (.new idx, 3)) (hcb : am_CB ci C T n ty) (h1 : Cond.classLink μ.1.cls idx C ∈ am_tb) (h2 : Cond.instantiable C n ∈ am_tb) (h3 : Cond.initialized C ∈ am_tb) (hly : am_ly c0 = (4, ci)) (hdf : ∀ j, j < n → ∃ t, (am_ft ci)[j]? = some t ∧ defaultValue (ty j) = (if t = 0 then .int 0 else if t = 1 then .long 0 else .null)) (hw : nwC c0 dm dm2 U lv st M N)
    (kk : jn d μ nc ns (dm ++ [c0]) U (pc + 3) lv (.inr (.inr c0) :: st) M N dm2 U2 post) : jn d μ (nc + 1) (ns + n) dm U pc lv st M N dm2 U2 post := by
  intro D q cA A p l e R s m args below meth c Q H locs cells slots ls hX hi hr ha hl
  have hX0 := hX
  obtain ⟨hx, hb, hml, hown, hts, hK, hA, hf, hlo, hce, hslo, hsk⟩ := hX
  obtain ⟨c1, c2, c3, c4, c5, c6⟩ := hcb
  refine va_new hx hb hts c2 ty c3 hown (hts _ h1) (hts _ h2) (hts _ h3) hK ha.1 ha.2.1 ha.2.2 hA c1 (fs := fsU q U M N c0 (am_ft ci)) (fun j hj => ?_) (by omega) (by omega) hd (fun a H1 hP hD hS => ?_)
  · obtain ⟨t, ht, e⟩ := hdf j hj
    rw [e]
    unfold vp_V
    rw [List.getD_eq_getElem?_getD, fsU_at ht]
    show _ = fU q U M N c0 j t
    by_cases t0 : t = 0
    · subst t0; rw [if_pos rfl]; show _ = Value.int (M c0 j); rw [hw.2.2.2.2.2.2.1 j]
    · rw [if_neg t0]
      by_cases t1 : t = 1
      · subst t1; rw [if_pos rfl]; show _ = Value.long (N c0 j); rw [hw.2.2.2.2.2.2.2 j]
      · rw [if_neg t1]
        have nin : (c0, j) ∉ U := fun z => (hw.2.2.1 _ z).2 rfl
        unfold fU
        split
        · exact absurd rfl t0
        · exact absurd rfl t1
        · rw [if_neg nin]
  · rw [← eU_o (q := q) (cA := cA) (U := U) (M := M) (N := N) hly] at hP hD
    exact n_next hw hX0 hi hr hP hD hS hl kk
end JN
