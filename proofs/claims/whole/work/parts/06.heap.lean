/-! ===== the rules of jg on the heap, and calls ===== -/
/-- what is known of a class -/
def am_CB (ci : Nat) (C : String) (T : u_T) (n : Nat) (ty : Nat → FieldType) : Prop :=
  am_cl[ci]? = some (C, T, n) ∧ (∀ w ∈ u_ws C T n, w ∈ am_tb) ∧ (∀ k, k < n → parseFieldDescriptor (T k).2.2.1 = some (ty k)) ∧ (∀ a, a < n → ∀ b, b < n → a ≠ b → (T a).2.1 ≠ (T b).2.1) ∧ (am_ft ci).length = n ∧ ∀ k, k < n → (T k).1 = C
/-- the field k, of kind t, of the class ci, named by entry idx of own's file -/
def am_FS (own : String) (idx ci k t : Nat) : Prop :=
  ∃ (C : String) (T : u_T) (n : Nat) (ty : Nat → FieldType), am_CB ci C T n ty ∧ (am_ft ci)[k]? = some t ∧ k < n ∧
    (Cond.fieldLink own idx C (T k).2.1 (T k).2.2.1 ∈ am_tb ∨ ∃ host, Cond.fieldLinkNest own idx C (T k).2.1 (T k).2.2.1 host ∈ am_nst)
/-- it can be written, and holds ints (or longs) -/
def am_FW (own : String) (idx ci k t : Nat) : Prop :=
  ∃ (C : String) (T : u_T) (n : Nat) (ty : Nat → FieldType), am_CB ci C T n ty ∧ (am_ft ci)[k]? = some t ∧ k < n ∧ (T k).2.2.2 = false ∧ ((t = 0 ∧ parseFieldDescriptor (T k).2.2.1 = some .int) ∨ (t = 1 ∧ parseFieldDescriptor (T k).2.2.1 = some .long)) ∧
    (Cond.fieldLink own idx C (T k).2.1 (T k).2.2.1 ∈ am_tb ∨ ∃ host, Cond.fieldLinkNest own idx C (T k).2.1 (T k).2.2.1 host ∈ am_nst)
section JH
variable {d : Nat} {μ : am_Y} {dm : List am_C} {pc : Nat} {lv : List (Nat × am_V)} {st : List am_V} {M : am_I} {N : am_N} {post : Option am_V → am_I → am_N → Prop}
theorem j_get {a : am_C} {idx ci k t : Nat} {v : am_V} (hd : decode μ.2.1 pc = .ok (.getfield idx, 3)) (hf : am_FS μ.1.cls idx ci k t) (hc : a ∈ dm) (hly : am_ly a = (4, ci)) (hv : ∀ q : am_C → Nat, am_f q M N a k t = am_v q v)
    (kk : jg d μ dm (pc + 3) lv (v :: st) M N post) : jg d μ dm pc lv (.inr (.inr a) :: st) M N post := by
  intro D q cA A p l e R s m args below meth c Q H locs cells slots ls hX hr ha hl
  obtain ⟨k0, h0⟩ := List.getElem?_of_mem hc
  obtain ⟨C, T, n, ty, ⟨h1, h2, -, -, h5, h6⟩, h7, h8, h9⟩ := hf
  have he := am_w_at (q := q) (cA := cA) (M := M) (N := N) h0
  rw [am_e_o hly] at he
  have hg : (am_fs q M N a (am_ft ci))[k]? = some (am_v q v) := by rw [am_fs_at h7, hv]
  rcases h9 with h9 | ⟨host, h9⟩
  · exact va_get hX.1 hX.2.1 hX.2.2.2.2.1 h2 hX.2.2.2.1 hX.2.2.2.2.2.1 ha.1 k0 he h1 k h8 (hX.2.2.2.2.1 _ h9) (fun x hx => by rw [h6 k h8] at hx; exact hx) hg hd (kk D q cA A p l e R s m args below meth c Q H locs cells slots ls hX hr ha hl)
  · exact va_getN hX.1 hX.2.1 hX.2.2.2.2.1 h2 hX.2.2.2.1 hX.2.2.2.2.2.1 ha.1 k0 he h1 k h8 (va_Nw.use rfl (hX.2.2.2.2.2.2.2.2.2.2.2.2.2.2.2.2 _ h9)) (fun x hx => by rw [h6 k h8] at hx; exact hx) hg hd (kk D q cA A p l e R s m args below meth c Q H locs cells slots ls hX hr ha hl)
theorem j_getI {a : am_C} {idx ci k : Nat} (hd : decode μ.2.1 pc = .ok (.getfield idx, 3)) (hf : am_FS μ.1.cls idx ci k 0) (hc : a ∈ dm) (hly : am_ly a = (4, ci))
    (kk : jg d μ dm (pc + 3) lv (.inl (M a k) :: st) M N post) : jg d μ dm pc lv (.inr (.inr a) :: st) M N post := j_get hd hf hc hly (fun _ => rfl) kk
theorem j_getL {a : am_C} {idx ci k : Nat} (hd : decode μ.2.1 pc = .ok (.getfield idx, 3)) (hf : am_FS μ.1.cls idx ci k 1) (hc : a ∈ dm) (hly : am_ly a = (4, ci))
    (kk : jg d μ dm (pc + 3) lv (.inr (.inl (N a k)) :: st) M N post) : jg d μ dm pc lv (.inr (.inr a) :: st) M N post := j_get hd hf hc hly (fun _ => rfl) kk
theorem j_getR {a b : am_C} {idx ci k : Nat} (hd : decode μ.2.1 pc = .ok (.getfield idx, 3)) (hf : am_FS μ.1.cls idx ci k 2) (hc : a ∈ dm) (hly : am_ly a = (4, ci)) (hp : am_pt a k = b)
    (kk : jg d μ dm (pc + 3) lv (.inr (.inr b) :: st) M N post) : jg d μ dm pc lv (.inr (.inr a) :: st) M N post := j_get hd hf hc hly (fun q => by subst hp; rfl) kk
theorem j_put {a : am_C} {idx ci k t : Nat} {v : am_V} {M' : am_I} {N' : am_N} (hd : decode μ.2.1 pc = .ok (.putfield idx, 3)) (hf : am_FW μ.1.cls idx ci k t) (hc : a ∈ dm) (hly : am_ly a = (4, ci)) (hv : ∀ q : am_C → Nat, am_f q M' N' a k t = am_v q v)
    (hn : (t = 0 → ∃ x, v = .inl x) ∧ (t = 1 → ∃ x, v = .inr (.inl x))) (hM : ∀ c', c' ≠ a → M' c' = M c') (hN : ∀ c', c' ≠ a → N' c' = N c') (hM1 : ∀ j, j ≠ k → M' a j = M a j) (hN1 : ∀ j, j ≠ k → N' a j = N a j)
    (kk : jg d μ dm (pc + 3) lv st M' N' post) : jg d μ dm pc lv (v :: .inr (.inr a) :: st) M N post := by
  intro D q cA A p l e R s m args below meth c Q H locs cells slots ls hX hr ha hl
  obtain ⟨k0, h0⟩ := List.getElem?_of_mem hc
  obtain ⟨C, T, n, ty, ⟨h1, h2, h3, h4, h5, h6⟩, h7, h8, h10, h11, h9⟩ := hf
  have he := am_w_at (q := q) (cA := cA) (M := M) (N := N) h0
  rw [am_e_o hly] at he
  have hset : (am_w q cA dm M N).set k0 (q a, .inr (ci, (am_fs q M N a (am_ft ci)).set k (am_v q v))) = am_w q cA dm M' N' := by
    rw [← hv q, am_fs_set h7 hM1 hN1, ← am_e_o (cA := cA) hly]
    exact am_w_set ha.2.1 h0 hM hN
  obtain ⟨ty1, hty1, hnar, hfit⟩ : ∃ ty1, parseFieldDescriptor (T k).2.2.1 = some ty1 ∧ narrow ty1 (am_v q v) = am_v q v ∧ fits ty1 (am_v q v) = true := by
    rcases h11 with ⟨e, h⟩ | ⟨e, h⟩
    · obtain ⟨x, rfl⟩ := hn.1 e
      exact ⟨_, h, rfl, rfl⟩
    · obtain ⟨x, rfl⟩ := hn.2 e
      exact ⟨_, h, rfl, rfl⟩
  have hlen : k < (am_fs q M N a (am_ft ci)).length := by rw [am_fs_len, h5]; exact h8
  have next : ∀ (H1 : Heap) (locs1 : List Loc), va_P D am_cl ((am_w q cA dm M N).set k0 (q a, .inr (ci, (am_fs q M N a (am_ft ci)).set k (am_v q v)))) H1 → va_D A ((am_w q cA dm M N).set k0 (q a, .inr (ci, (am_fs q M N a (am_ft ci)).set k (am_v q v)))) → va_S A s.heap H1 locs1 → W p l e R s m args below meth c H1 locs1 cells slots Q (F0 m (pc + 3) ls (st.map (am_v q))) := by
    intro H1 locs1 g1 g2 g3
    rw [hset] at g1 g2
    exact kk D q cA A p l e R s m args below meth c Q H1 locs1 cells slots ls hX hr ⟨g1, g2, g3⟩ hl
  rcases h9 with h9 | ⟨host, h9⟩
  · exact va_put hX.1 hX.2.1 hX.2.2.2.2.1 h2 ty h3 h4 hX.2.2.2.1 hX.2.2.2.2.2.1 ha.1 ha.2.1 ha.2.2 k0 he h1 k h8 (hX.2.2.2.2.1 _ h9) (fun x hx => by rw [h6 k h8] at hx; exact hx) h10 hty1 hnar hfit hlen hd next
  · exact va_putN hX.1 hX.2.1 hX.2.2.2.2.1 h2 ty h3 h4 hX.2.2.2.1 hX.2.2.2.2.2.1 ha.1 ha.2.1 ha.2.2 k0 he h1 k h8 (va_Nw.use rfl (hX.2.2.2.2.2.2.2.2.2.2.2.2.2.2.2.2 _ h9)) (fun x hx => by rw [h6 k h8] at hx; exact hx) h10 hty1 hnar hfit hlen hd next
theorem j_putI {a : am_C} {idx ci k : Nat} {x : Int32} (hd : decode μ.2.1 pc = .ok (.putfield idx, 3)) (hf : am_FW μ.1.cls idx ci k 0) (hc : a ∈ dm) (hly : am_ly a = (4, ci))
    (kk : jg d μ dm (pc + 3) lv st (am_u M a k x) N post) : jg d μ dm pc lv (.inl x :: .inr (.inr a) :: st) M N post :=
  j_put hd hf hc hly (fun _ => by show Value.int (am_u M a k x a k) = _; unfold am_u; rw [am_s_same]; simp [upd, am_v]) ⟨fun _ => ⟨x, rfl⟩, fun h => (by cases h)⟩ (fun c' h => am_s_other M _ h) (fun _ _ => rfl) (fun j hj => by simp only [am_u, am_s_same]; simp [upd, hj]) (fun _ _ => rfl) kk
theorem j_putL {a : am_C} {idx ci k : Nat} {x : Int64} (hd : decode μ.2.1 pc = .ok (.putfield idx, 3)) (hf : am_FW μ.1.cls idx ci k 1) (hc : a ∈ dm) (hly : am_ly a = (4, ci))
    (kk : jg d μ dm (pc + 3) lv st M (am_ul N a k x) post) : jg d μ dm pc lv (.inr (.inl x) :: .inr (.inr a) :: st) M N post :=
  j_put hd hf hc hly (fun _ => by show Value.long (am_ul N a k x a k) = _; unfold am_ul; rw [am_s_same]; simp [vp_updL, am_v]) ⟨fun h => (by cases h), fun _ => ⟨x, rfl⟩⟩ (fun _ _ => rfl) (fun c' h => am_s_other N _ h) (fun _ _ => rfl) (fun j hj => by simp only [am_ul, am_s_same]; simp [vp_updL, hj]) kk
theorem j_iald {a : am_C} {n : Nat} {i : Int32} (hd : decode μ.2.1 pc = .ok (.iaload, 1)) (hc : a ∈ dm) (hly : am_ly a = (0, n)) (hin : vp_in i n)
    (kk : jg d μ dm (pc + 1) lv (.inl (M a i.toNatClampNeg) :: st) M N post) : jg d μ dm pc lv (.inl i :: .inr (.inr a) :: st) M N post := by
  intro D q cA A p l e R s m args below meth c Q H locs cells slots ls hX hr ha hl
  obtain ⟨k0, h0⟩ := List.getElem?_of_mem hc
  have he := am_w_at (q := q) (cA := cA) (M := M) (N := N) h0
  rw [am_e_i hly] at he
  exact va_iald hX.1 hX.2.1 hX.2.2.2.2.2.1 ha.1 k0 0 he rfl hin hd (kk D q cA A p l e R s m args below meth c Q H locs cells slots ls hX hr ha hl)
theorem j_lald {a : am_C} {n : Nat} {i : Int32} (hd : decode μ.2.1 pc = .ok (.laload, 1)) (hc : a ∈ dm) (hly : am_ly a = (1, n)) (hin : vp_in i n)
    (kk : jg d μ dm (pc + 1) lv ( .inr (.inl (N a i.toNatClampNeg)) :: st) M N post) : jg d μ dm pc lv (.inl i :: .inr (.inr a) :: st) M N post := by
  intro D q cA A p l e R s m args below meth c Q H locs cells slots ls hX hr ha hl
  obtain ⟨k0, h0⟩ := List.getElem?_of_mem hc
  have he := am_w_at (q := q) (cA := cA) (M := M) (N := N) h0
  rw [am_e_l hly] at he
  exact va_lald hX.1 hX.2.1 hX.2.2.2.2.2.1 ha.1 k0 1 he rfl hin hd (kk D q cA A p l e R s m args below meth c Q H locs cells slots ls hX hr ha hl)
theorem j_bald {a : am_C} {n : Nat} {i : Int32} (hd : decode μ.2.1 pc = .ok (.baload, 1)) (hc : a ∈ dm) (hly : am_ly a = (2, n)) (hin : vp_in i n)
    (kk : jg d μ dm (pc + 1) lv (.inl (M a i.toNatClampNeg) :: st) M N post) : jg d μ dm pc lv (.inl i :: .inr (.inr a) :: st) M N post := by
  intro D q cA A p l e R s m args below meth c Q H locs cells slots ls hX hr ha hl
  obtain ⟨k0, h0⟩ := List.getElem?_of_mem hc
  have he := am_w_at (q := q) (cA := cA) (M := M) (N := N) h0
  rw [am_e_b hly] at he
  exact va_bald hX.1 hX.2.1 hX.2.2.2.2.2.1 ha.1 k0 2 he rfl hin hd (kk D q cA A p l e R s m args below meth c Q H locs cells slots ls hX hr ha hl)
theorem j_zald {a : am_C} {n : Nat} {i : Int32} (hd : decode μ.2.1 pc = .ok (.baload, 1)) (hc : a ∈ dm) (hly : am_ly a = (3, n)) (hin : vp_in i n)
    (kk : jg d μ dm (pc + 1) lv (.inl (M a i.toNatClampNeg) :: st) M N post) : jg d μ dm pc lv (.inl i :: .inr (.inr a) :: st) M N post := by
  intro D q cA A p l e R s m args below meth c Q H locs cells slots ls hX hr ha hl
  obtain ⟨k0, h0⟩ := List.getElem?_of_mem hc
  have he := am_w_at (q := q) (cA := cA) (M := M) (N := N) h0
  rw [am_e_z hly] at he
  exact va_zald hX.1 hX.2.1 hX.2.2.2.2.2.1 ha.1 k0 3 he rfl hin hd (kk D q cA A p l e R s m args below meth c Q H locs cells slots ls hX hr ha hl)
theorem j_iast {a : am_C} {n : Nat} {i : Int32} {x : Int32} (hd : decode μ.2.1 pc = .ok (.iastore, 1)) (hc : a ∈ dm) (hly : am_ly a = (0, n)) (hin : vp_in i n)
    (kk : jg d μ dm (pc + 1) lv st (am_u M a i.toNatClampNeg x) N post) : jg d μ dm pc lv (.inl x :: .inl i :: .inr (.inr a) :: st) M N post := by
  intro D q cA A p l e R s m args below meth c Q H locs cells slots ls hX hr ha hl
  obtain ⟨k0, h0⟩ := List.getElem?_of_mem hc
  have he := am_w_at (q := q) (cA := cA) (M := M) (N := N) h0
  rw [am_e_i hly] at he
  have hset : (am_w q cA dm M N).set k0 (q a, .inl (cA 0, n, (.inl (upd (M a) i.toNatClampNeg x)))) = am_w q cA dm (am_u M a i.toNatClampNeg x) N := by
    have e1 : am_e q cA (am_u M a i.toNatClampNeg x) N a = .inl (cA 0, n, (.inl (upd (M a) i.toNatClampNeg x))) := by rw [am_e_i hly]; simp only [am_u, am_ul, am_s_same]
    rw [← e1]
    exact am_w_set ha.2.1 h0 (fun c' h => am_s_other M _ h) (fun c' h => rfl)
  refine va_iast hX.1 hX.2.1 hX.2.2.2.2.2.1 ha.1 ha.2.1 ha.2.2 k0 0 he rfl hin hd (fun H1 locs1 g1 g2 g3 => ?_)
  rw [hset] at g1 g2
  exact kk D q cA A p l e R s m args below meth c Q H1 locs1 cells slots ls hX hr ⟨g1, g2, g3⟩ hl
theorem j_last {a : am_C} {n : Nat} {i : Int32} {x : Int64} (hd : decode μ.2.1 pc = .ok (.lastore, 1)) (hc : a ∈ dm) (hly : am_ly a = (1, n)) (hin : vp_in i n)
    (kk : jg d μ dm (pc + 1) lv st M (am_ul N a i.toNatClampNeg x) post) : jg d μ dm pc lv (.inr (.inl x) :: .inl i :: .inr (.inr a) :: st) M N post := by
  intro D q cA A p l e R s m args below meth c Q H locs cells slots ls hX hr ha hl
  obtain ⟨k0, h0⟩ := List.getElem?_of_mem hc
  have he := am_w_at (q := q) (cA := cA) (M := M) (N := N) h0
  rw [am_e_l hly] at he
  have hset : (am_w q cA dm M N).set k0 (q a, .inl (cA 1, n, (.inr (.inl (vp_updL (N a) i.toNatClampNeg x))))) = am_w q cA dm M (am_ul N a i.toNatClampNeg x) := by
    have e1 : am_e q cA M (am_ul N a i.toNatClampNeg x) a = .inl (cA 1, n, (.inr (.inl (vp_updL (N a) i.toNatClampNeg x)))) := by rw [am_e_l hly]; simp only [am_u, am_ul, am_s_same]
    rw [← e1]
    exact am_w_set ha.2.1 h0 (fun c' h => rfl) (fun c' h => am_s_other N _ h)
  refine va_last hX.1 hX.2.1 hX.2.2.2.2.2.1 ha.1 ha.2.1 ha.2.2 k0 1 he rfl hin hd (fun H1 locs1 g1 g2 g3 => ?_)
  rw [hset] at g1 g2
  exact kk D q cA A p l e R s m args below meth c Q H1 locs1 cells slots ls hX hr ⟨g1, g2, g3⟩ hl
theorem j_bast {a : am_C} {n : Nat} {i : Int32} {x : Int32} (hd : decode μ.2.1 pc = .ok (.bastore, 1)) (hc : a ∈ dm) (hly : am_ly a = (2, n)) (hin : vp_in i n)
    (kk : jg d μ dm (pc + 1) lv st (am_u M a i.toNatClampNeg (vp_nar .byte x)) N post) : jg d μ dm pc lv (.inl x :: .inl i :: .inr (.inr a) :: st) M N post := by
  intro D q cA A p l e R s m args below meth c Q H locs cells slots ls hX hr ha hl
  obtain ⟨k0, h0⟩ := List.getElem?_of_mem hc
  have he := am_w_at (q := q) (cA := cA) (M := M) (N := N) h0
  rw [am_e_b hly] at he
  have hset : (am_w q cA dm M N).set k0 (q a, .inl (cA 2, n, (.inl (upd (M a) i.toNatClampNeg (vp_nar .byte x))))) = am_w q cA dm (am_u M a i.toNatClampNeg (vp_nar .byte x)) N := by
    have e1 : am_e q cA (am_u M a i.toNatClampNeg (vp_nar .byte x)) N a = .inl (cA 2, n, (.inl (upd (M a) i.toNatClampNeg (vp_nar .byte x)))) := by rw [am_e_b hly]; simp only [am_u, am_ul, am_s_same]
    rw [← e1]
    exact am_w_set ha.2.1 h0 (fun c' h => am_s_other M _ h) (fun c' h => rfl)
  refine va_bast hX.1 hX.2.1 hX.2.2.2.2.2.1 ha.1 ha.2.1 ha.2.2 k0 2 he rfl hin hd (fun H1 locs1 g1 g2 g3 => ?_)
  rw [hset] at g1 g2
  exact kk D q cA A p l e R s m args below meth c Q H1 locs1 cells slots ls hX hr ⟨g1, g2, g3⟩ hl
theorem j_zast {a : am_C} {n : Nat} {i : Int32} {x : Int32} (hd : decode μ.2.1 pc = .ok (.bastore, 1)) (hc : a ∈ dm) (hly : am_ly a = (3, n)) (hin : vp_in i n)
    (kk : jg d μ dm (pc + 1) lv st (am_u M a i.toNatClampNeg (vp_nar .boolean x)) N post) : jg d μ dm pc lv (.inl x :: .inl i :: .inr (.inr a) :: st) M N post := by
  intro D q cA A p l e R s m args below meth c Q H locs cells slots ls hX hr ha hl
  obtain ⟨k0, h0⟩ := List.getElem?_of_mem hc
  have he := am_w_at (q := q) (cA := cA) (M := M) (N := N) h0
  rw [am_e_z hly] at he
  have hset : (am_w q cA dm M N).set k0 (q a, .inl (cA 3, n, (.inl (upd (M a) i.toNatClampNeg (vp_nar .boolean x))))) = am_w q cA dm (am_u M a i.toNatClampNeg (vp_nar .boolean x)) N := by
    have e1 : am_e q cA (am_u M a i.toNatClampNeg (vp_nar .boolean x)) N a = .inl (cA 3, n, (.inl (upd (M a) i.toNatClampNeg (vp_nar .boolean x)))) := by rw [am_e_z hly]; simp only [am_u, am_ul, am_s_same]
    rw [← e1]
    exact am_w_set ha.2.1 h0 (fun c' h => am_s_other M _ h) (fun c' h => rfl)
  refine va_zast hX.1 hX.2.1 hX.2.2.2.2.2.1 ha.1 ha.2.1 ha.2.2 k0 3 he rfl hin hd (fun H1 locs1 g1 g2 g3 => ?_)
  rw [hset] at g1 g2
  exact kk D q cA A p l e R s m args below meth c Q H1 locs1 cells slots ls hX hr ⟨g1, g2, g3⟩ hl
theorem j_aleni {a : am_C} {n : Nat} {v : Int32} (hd : decode μ.2.1 pc = .ok (.arraylength, 1)) (hc : a ∈ dm) (hly : am_ly a = (0, n)) (hv : Int32.ofNat n = v)
    (kk : jg d μ dm (pc + 1) lv (.inl v :: st) M N post) : jg d μ dm pc lv (.inr (.inr a) :: st) M N post := by
  intro D q cA A p l e R s m args below meth c Q H locs cells slots ls hX hr ha hl
  obtain ⟨k0, h0⟩ := List.getElem?_of_mem hc
  have he := am_w_at (q := q) (cA := cA) (M := M) (N := N) h0
  rw [am_e_i hly] at he
  exact va_alen hX.1 hX.2.1 hX.2.2.2.2.2.1 ha.1 k0 0 he (ty := .int) rfl hv hd (kk D q cA A p l e R s m args below meth c Q H locs cells slots ls hX hr ha hl)
theorem j_alenl {a : am_C} {n : Nat} {v : Int32} (hd : decode μ.2.1 pc = .ok (.arraylength, 1)) (hc : a ∈ dm) (hly : am_ly a = (1, n)) (hv : Int32.ofNat n = v)
    (kk : jg d μ dm (pc + 1) lv (.inl v :: st) M N post) : jg d μ dm pc lv (.inr (.inr a) :: st) M N post := by
  intro D q cA A p l e R s m args below meth c Q H locs cells slots ls hX hr ha hl
  obtain ⟨k0, h0⟩ := List.getElem?_of_mem hc
  have he := am_w_at (q := q) (cA := cA) (M := M) (N := N) h0
  rw [am_e_l hly] at he
  exact va_alen hX.1 hX.2.1 hX.2.2.2.2.2.1 ha.1 k0 1 he (ty := .long) rfl hv hd (kk D q cA A p l e R s m args below meth c Q H locs cells slots ls hX hr ha hl)
theorem j_alenb {a : am_C} {n : Nat} {v : Int32} (hd : decode μ.2.1 pc = .ok (.arraylength, 1)) (hc : a ∈ dm) (hly : am_ly a = (2, n)) (hv : Int32.ofNat n = v)
    (kk : jg d μ dm (pc + 1) lv (.inl v :: st) M N post) : jg d μ dm pc lv (.inr (.inr a) :: st) M N post := by
  intro D q cA A p l e R s m args below meth c Q H locs cells slots ls hX hr ha hl
  obtain ⟨k0, h0⟩ := List.getElem?_of_mem hc
  have he := am_w_at (q := q) (cA := cA) (M := M) (N := N) h0
  rw [am_e_b hly] at he
  exact va_alen hX.1 hX.2.1 hX.2.2.2.2.2.1 ha.1 k0 2 he (ty := .byte) rfl hv hd (kk D q cA A p l e R s m args below meth c Q H locs cells slots ls hX hr ha hl)
theorem j_alenz {a : am_C} {n : Nat} {v : Int32} (hd : decode μ.2.1 pc = .ok (.arraylength, 1)) (hc : a ∈ dm) (hly : am_ly a = (3, n)) (hv : Int32.ofNat n = v)
    (kk : jg d μ dm (pc + 1) lv (.inl v :: st) M N post) : jg d μ dm pc lv (.inr (.inr a) :: st) M N post := by
  intro D q cA A p l e R s m args below meth c Q H locs cells slots ls hX hr ha hl
  obtain ⟨k0, h0⟩ := List.getElem?_of_mem hc
  have he := am_w_at (q := q) (cA := cA) (M := M) (N := N) h0
  rw [am_e_z hly] at he
  exact va_alen hX.1 hX.2.1 hX.2.2.2.2.2.1 ha.1 k0 3 he (ty := .boolean) rfl hv hd (kk D q cA A p l e R s m args below meth c Q H locs cells slots ls hX hr ha hl)
end JH
