/-! ===== jn: rows, fields, calls ===== -/
section J2
variable {d nc ns : Nat} {μ : am_Y} {dm dm2 : List am_C} {U U2 : List (am_C × Nat)} {pc : Nat} {lv : List (Nat × am_V)} {st : List am_V} {M M' : am_I} {N N' : am_N} {post : am_I → am_N → Prop} {q q' : am_C → Nat} {cA : Nat → ClassId}
theorem n_arr {c0 : am_C} {kd n : Nat} {ty : FieldType} {atype : ArrayType} {x : Int32} {a0 : vp_A} (hd : decode μ.2.1 pc = .ok (.newarray atype, 2)) (hty : newarray.typeOf atype = ty) (harr : Cond.arrayClass ty ∈ am_tb) (hk : ∀ cA : Nat → ClassId, (am_tys cA)[kd]? = some (cA kd, ty)) (hra : ∀ (s : State) (i : ClassId), va_RA s i ty → s.vm.findClass ("[" ++ ty.toString) = some i) (he : ∀ (q : am_C → Nat) (cA : Nat → ClassId), eU q cA U M N c0 = .inl (cA kd, a0)) (ha0 : ∀ cA : ClassId, vp_cell cA a0 = arrV cA n (fun _ => defaultValue ty)) (hx0 : x = nI n) (hn : n < 2 ^ 31) (hby : n * componentBytes ty ≤ 536870912) (hw : nwC c0 dm dm2 U lv st M N)
    (kk : jn d μ nc ns (dm ++ [c0]) U (pc + 2) lv (.inr (.inr c0) :: st) M N dm2 U2 post) : jn d μ (nc + 1) (ns + n) dm U pc lv (.inl x :: st) M N dm2 U2 post := by
  intro D q cA A p l e R s m args below meth c Q H locs cells slots ls hX hi hr ha hl
  have hX0 := hX
  obtain ⟨hx, hb, hml, hown, hts, hK, hA, hf, hlo, hce, hslo, hsk⟩ := hX
  subst hx0
  have harr' : (Cond.arrayClass (newarray.typeOf atype)).before args s = true := by rw [hty]; exact hts _ harr
  refine va_newa hx hb harr' hty hK ha.1 ha.2.1 ha.2.2 hA ha0 (nI_pos hn) (nI_clamp hn) hby (by omega) (by omega) hd (fun a cB H1 hK1 hP hD hS => ?_)
  have e1 : cB = cA kd := by
    have h1 := (hK1.2 4 (cB, ty) rfl).2
    have h2 := (hK.2 kd _ (hk cA)).2
    have h3 := hra s cB h1
    have h4 := hra s (cA kd) h2
    rw [h3] at h4
    exact Option.some.inj h4
  rw [e1, ← he q cA] at hP hD
  exact n_next hw hX0 hi hr hP hD hS hl kk
theorem vp_z {cA : ClassId} {n : Nat} {f : Nat → Int32} (hf : ∀ j, f j = 0) : vp_cell cA (n, .inl f) = arrV cA n (fun _ => .int 0) := by
  have : f = fun _ => 0 := funext hf
  subst this
  rfl
theorem vp_zl {cA : ClassId} {n : Nat} {f : Nat → Int64} (hf : ∀ j, f j = 0) : vp_cell cA (n, .inr (.inl f)) = arrV cA n (fun _ => .long 0) := by
  have : f = fun _ => 0 := funext hf
  subst this
  rfl
theorem n_ints {c0 : am_C} {n : Nat} {x : Int32} (hd : decode μ.2.1 pc = .ok (.newarray .int, 2)) (harr : Cond.arrayClass .int ∈ am_tb) (hly : am_ly c0 = (0, n)) (hx0 : x = nI n) (hn : n ≤ 10000) (hw : nwC c0 dm dm2 U lv st M N) (kk : jn d μ nc ns (dm ++ [c0]) U (pc + 2) lv (.inr (.inr c0) :: st) M N dm2 U2 post) : jn d μ (nc + 1) (ns + n) dm U pc lv (.inl x :: st) M N dm2 U2 post :=
  n_arr (kd := 0) (a0 := (n, .inl (M c0))) hd rfl harr (fun _ => rfl) (fun s i h => h) (fun q cA => by unfold eU; rw [hly]; rfl) (fun cA => vp_z hw.2.2.2.2.2.2.1) hx0 (by omega) (by show n * 4 ≤ 536870912; omega) hw kk
theorem n_longs {c0 : am_C} {n : Nat} {x : Int32} (hd : decode μ.2.1 pc = .ok (.newarray .long, 2)) (harr : Cond.arrayClass .long ∈ am_tb) (hly : am_ly c0 = (1, n)) (hx0 : x = nI n) (hn : n ≤ 10000) (hw : nwC c0 dm dm2 U lv st M N) (kk : jn d μ nc ns (dm ++ [c0]) U (pc + 2) lv (.inr (.inr c0) :: st) M N dm2 U2 post) : jn d μ (nc + 1) (ns + n) dm U pc lv (.inl x :: st) M N dm2 U2 post :=
  n_arr (kd := 1) (a0 := (n, .inr (.inl (N c0)))) hd rfl harr (fun _ => rfl) (fun s i h => h) (fun q cA => by unfold eU; rw [hly]; rfl) (fun cA => vp_zl hw.2.2.2.2.2.2.2) hx0 (by omega) (by show n * 8 ≤ 536870912; omega) hw kk
theorem n_bytes {c0 : am_C} {n : Nat} {x : Int32} (hd : decode μ.2.1 pc = .ok (.newarray .byte, 2)) (harr : Cond.arrayClass .byte ∈ am_tb) (hly : am_ly c0 = (2, n)) (hx0 : x = nI n) (hn : n ≤ 10000) (hw : nwC c0 dm dm2 U lv st M N) (kk : jn d μ nc ns (dm ++ [c0]) U (pc + 2) lv (.inr (.inr c0) :: st) M N dm2 U2 post) : jn d μ (nc + 1) (ns + n) dm U pc lv (.inl x :: st) M N dm2 U2 post :=
  n_arr (kd := 2) (a0 := (n, .inl (M c0))) hd rfl harr (fun _ => rfl) (fun s i h => h) (fun q cA => by unfold eU; rw [hly]; rfl) (fun cA => vp_z hw.2.2.2.2.2.2.1) hx0 (by omega) (by show n * 1 ≤ 536870912; omega) hw kk
theorem n_bools {c0 : am_C} {n : Nat} {x : Int32} (hd : decode μ.2.1 pc = .ok (.newarray .boolean, 2)) (harr : Cond.arrayClass .boolean ∈ am_tb) (hly : am_ly c0 = (3, n)) (hx0 : x = nI n) (hn : n ≤ 10000) (hw : nwC c0 dm dm2 U lv st M N) (kk : jn d μ nc ns (dm ++ [c0]) U (pc + 2) lv (.inr (.inr c0) :: st) M N dm2 U2 post) : jn d μ (nc + 1) (ns + n) dm U pc lv (.inl x :: st) M N dm2 U2 post :=
  n_arr (kd := 3) (a0 := (n, .inl (M c0))) hd rfl harr (fun _ => rfl) (fun s i h => h) (fun q cA => by unfold eU; rw [hly]; rfl) (fun cA => vp_z hw.2.2.2.2.2.2.1) hx0 (by omega) (by show n * 1 ≤ 536870912; omega) hw kk
/-- a field of the class itself, in its constructor -/
def am_FN (own : String) (idx ci k t : Nat) : Prop :=
  ∃ (T : u_T) (n : Nat) (ty : Nat → FieldType) (ty1 : FieldType), am_CB ci own T n ty ∧ (am_ft ci)[k]? = some t ∧ k < n ∧ parseFieldDescriptor (T k).2.2.1 = some ty1 ∧ (t = 0 → ty1 = .int) ∧ (t = 2 → ∀ a, narrow ty1 (.ref a) = .ref a ∧ fits ty1 (.ref a) = true) ∧ Cond.fieldLink own idx own (T k).2.1 (T k).2.2.1 ∈ am_tb
theorem n_get {a b : am_C} {idx ci k : Nat} (hd : decode μ.2.1 pc = .ok (.getfield idx, 3)) (hf : am_FN μ.1.cls idx ci k 2) (hc : a ∈ dm) (hly : am_ly a = (4, ci)) (hU : (a, k) ∈ U) (hp : am_pt a k = b) (kk : jn d μ nc ns dm U (pc + 3) lv (.inr (.inr b) :: st) M N dm2 U2 post) : jn d μ nc ns dm U pc lv (.inr (.inr a) :: st) M N dm2 U2 post := by
  intro D q cA A p l e R s m args below meth c Q H locs cells slots ls hX hi hr ha hl
  obtain ⟨k0, h0⟩ := List.getElem?_of_mem hc
  obtain ⟨T, n, ty, ty1, ⟨h1, h2, -, -, h5, h6⟩, h7, h8, -, -, -, h9⟩ := hf
  have he := wQ_at (q := q) (cA := cA) (U := U) (M := M) (N := N) h0
  rw [eU_o hly] at he
  have hg : (fsU q U M N a (am_ft ci))[k]? = some (.ref (q b)) := by
    rw [fsU_at h7]
    show some (if (a, k) ∈ U then Value.ref (q (am_pt a k)) else .null) = _
    rw [if_pos hU, hp]
  exact va_get hX.1 hX.2.1 hX.2.2.2.2.1 h2 hX.2.2.2.1 hX.2.2.2.2.2.1 ha.1 k0 he h1 k h8 (hX.2.2.2.2.1 _ h9) (fun x hx => by rw [h6 k h8] at hx; exact hx) hg hd (kk D q cA A p l e R s m args below meth c Q H locs cells slots ls hX hi hr ha hl)
theorem n_put {a : am_C} {idx ci k t : Nat} {v : am_V} {U' : List (am_C × Nat)} (hd : decode μ.2.1 pc = .ok (.putfield idx, 3)) (hf : am_FN μ.1.cls idx ci k t) (hc : a ∈ dm) (hly : am_ly a = (4, ci)) (hv : ∀ q : am_C → Nat, fU q U' M' N a k t = am_v q v) (ht : (t = 0 ∧ ∃ x, v = .inl x) ∨ (t = 2 ∧ ∃ x, v = .inr (.inr x))) (hM : ∀ c', c' ≠ a → M' c' = M c') (hM1 : ∀ j, j ≠ k → M' a j = M a j) (hU : ∀ c', c' ≠ a → ∀ j, (c', j) ∈ U' ↔ (c', j) ∈ U) (hU1 : ∀ j, j ≠ k → ((a, j) ∈ U' ↔ (a, j) ∈ U))
    (kk : jn d μ nc ns dm U' (pc + 3) lv st M' N dm2 U2 post) : jn d μ nc ns dm U pc lv (v :: .inr (.inr a) :: st) M N dm2 U2 post := by
  intro D q cA A p l e R s m args below meth c Q H locs cells slots ls hX hi hr ha hl
  obtain ⟨k0, h0⟩ := List.getElem?_of_mem hc
  obtain ⟨T, n, ty, ty1, ⟨h1, h2, h3, h4, h5, h6⟩, h7, h8, h9, h10, h11, h12⟩ := hf
  have he := wQ_at (q := q) (cA := cA) (U := U) (M := M) (N := N) h0
  rw [eU_o hly] at he
  have hset : (wQ q cA U dm M N).set k0 (q a, .inr (ci, (fsU q U M N a (am_ft ci)).set k (am_v q v))) = wQ q cA U' dm M' N := by
    rw [← hv q, fsU_set h7 hM1 (fun _ _ => rfl) hU1, ← eU_o (cA := cA) hly]
    exact wQ_set ha.2.1 h0 hM (fun _ _ => rfl) hU
  have hnf : narrow ty1 (am_v q v) = am_v q v ∧ fits ty1 (am_v q v) = true := by
    rcases ht with ⟨t0, x, hx⟩ | ⟨t2, x, hx⟩
    · rw [h10 t0, hx]; exact ⟨rfl, rfl⟩
    · rw [hx]; exact h11 t2 _
  have hlen : k < (fsU q U M N a (am_ft ci)).length := by rw [fsU_len, h5]; exact h8
  have next : ∀ (H1 : Heap) (locs1 : List Loc), va_P D am_cl ((wQ q cA U dm M N).set k0 (q a, .inr (ci, (fsU q U M N a (am_ft ci)).set k (am_v q v)))) H1 → va_D A ((wQ q cA U dm M N).set k0 (q a, .inr (ci, (fsU q U M N a (am_ft ci)).set k (am_v q v)))) → va_S A s.heap H1 locs1 → W p l e R s m args below meth c H1 locs1 cells slots Q (F0 m (pc + 3) ls (st.map (am_v q))) := by
    intro H1 locs1 g1 g2 g3
    rw [hset] at g1 g2
    exact kk D q cA A p l e R s m args below meth c Q H1 locs1 cells slots ls hX hi hr ⟨g1, g2, g3⟩ hl
  cases hfin : (T k).2.2.2 with
  | false => exact va_put hX.1 hX.2.1 hX.2.2.2.2.1 h2 ty h3 h4 hX.2.2.2.1 hX.2.2.2.2.2.1 ha.1 ha.2.1 ha.2.2 k0 he h1 k h8 (hX.2.2.2.2.1 _ h12) (fun x hx => by rw [h6 k h8] at hx; exact hx) hfin h9 hnf.1 hnf.2 hlen hd next
  | true => exact va_putF hX.1 hX.2.1 hX.2.2.2.2.1 h2 ty h3 h4 hX.2.2.2.1 hX.2.2.2.2.2.1 ha.1 ha.2.1 ha.2.2 k0 he h1 k h8 (hX.2.2.2.2.1 _ h12) (fun x hx => by rw [h6 k h8] at hx; exact hx) hfin hi (h6 k h8) h9 hnf.1 hnf.2 hlen hd next
theorem n_putI {a : am_C} {idx ci k : Nat} {x : Int32} (hd : decode μ.2.1 pc = .ok (.putfield idx, 3)) (hf : am_FN μ.1.cls idx ci k 0) (hc : a ∈ dm) (hly : am_ly a = (4, ci)) (kk : jn d μ nc ns dm U (pc + 3) lv st (am_u M a k x) N dm2 U2 post) : jn d μ nc ns dm U pc lv (.inl x :: .inr (.inr a) :: st) M N dm2 U2 post :=
  n_put hd hf hc hly (fun q => by show Value.int (am_u M a k x a k) = _; rw [am_u_c, pk_us]; rfl) (Or.inl ⟨rfl, x, rfl⟩) (fun c' h => am_u_o _ _ _ h) (fun j hj => by rw [am_u_c, pk_un hj]) (fun _ _ _ => Iff.rfl) (fun _ _ => Iff.rfl) kk
theorem n_putR {a b : am_C} {idx ci k : Nat} (hd : decode μ.2.1 pc = .ok (.putfield idx, 3)) (hf : am_FN μ.1.cls idx ci k 2) (hc : a ∈ dm) (hly : am_ly a = (4, ci)) (hp : am_pt a k = b) (kk : jn d μ nc ns dm ((a, k) :: U) (pc + 3) lv st M N dm2 U2 post) : jn d μ nc ns dm U pc lv (.inr (.inr b) :: .inr (.inr a) :: st) M N dm2 U2 post := by
  refine n_put (U' := (a, k) :: U) (M' := M) hd hf hc hly (fun q => ?_) (Or.inr ⟨rfl, b, rfl⟩) (fun _ _ => rfl) (fun _ _ => rfl) (fun c' h j => ?_) (fun j h => ?_) kk
  · show (if (a, k) ∈ (a, k) :: U then Value.ref (q (am_pt a k)) else .null) = Value.ref (q b)
    rw [if_pos List.mem_cons_self, hp]
  · refine ⟨fun w => (List.mem_cons.mp w).resolve_left (fun e => h (congrArg Prod.fst e)), fun w => List.mem_cons_of_mem _ w⟩
  · refine ⟨fun w => (List.mem_cons.mp w).resolve_left (fun e => h (congrArg Prod.snd e)), fun w => List.mem_cons_of_mem _ w⟩
end J2
