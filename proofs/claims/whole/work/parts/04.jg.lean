/-! ===== the judgement jg: a method of the class or of the reference, at a place of its code, over the cells; no new cell is made ===== -/
def am_v (q : am_C → Nat) (v : am_V) : Value := match v with
  | .inl x => .int x
  | .inr (.inl x) => .long x
  | .inr (.inr c) => .ref (q c)
def am_f (q : am_C → Nat) (M : am_I) (N : am_N) (c : am_C) (j t : Nat) : Value := match t with
  | 0 => .int (M c j)
  | 1 => .long (N c j)
  | _ => .ref (q (am_pt c j))
def am_fs (q : am_C → Nat) (M : am_I) (N : am_N) (c : am_C) (ts : List Nat) : List Value := (List.range ts.length).map (fun j => am_f q M N c j (ts.getD j 0))
def am_e (q : am_C → Nat) (cA : Nat → ClassId) (M : am_I) (N : am_N) (c : am_C) : va_E := match am_ly c with
  | (0, n) => .inl (cA 0, n, .inl (M c))
  | (1, n) => .inl (cA 1, n, .inr (.inl (N c)))
  | (2, n) => .inl (cA 2, n, .inl (M c))
  | (3, n) => .inl (cA 3, n, .inl (M c))
  | (_, ci) => .inr (ci, am_fs q M N c (am_ft ci))
def am_w (q : am_C → Nat) (cA : Nat → ClassId) (dm : List am_C) (M : am_I) (N : am_N) : va_W := dm.map (fun c => (q c, am_e q cA M N c))
def am_s {α : Type} (M : am_C → Nat → α) (c : am_C) (f : Nat → α) : am_C → Nat → α := fun c' => if c' = c then f else M c'
def am_u (M : am_I) (c : am_C) (k : Nat) (x : Int32) : am_I := am_s M c (upd (M c) k x)
def am_ul (N : am_N) (c : am_C) (k : Nat) (x : Int64) : am_N := am_s N c (vp_updL (N c) k x)
theorem am_s_same {α : Type} (M : am_C → Nat → α) (c : am_C) (f : Nat → α) : am_s M c f c = f := by simp [am_s]
theorem am_s_other {α : Type} (M : am_C → Nat → α) {c c' : am_C} (f : Nat → α) (h : c' ≠ c) : am_s M c f c' = M c' := by simp [am_s, h]
theorem am_w_at {q : am_C → Nat} {cA : Nat → ClassId} {dm : List am_C} {M : am_I} {N : am_N} {k0 : Nat} {c : am_C} (h : dm[k0]? = some c) : (am_w q cA dm M N)[k0]? = some (q c, am_e q cA M N c) := by
  simp [am_w, h]
theorem am_e_congr {q : am_C → Nat} {cA : Nat → ClassId} {M M' : am_I} {N N' : am_N} {c : am_C} (h1 : M c = M' c) (h2 : N c = N' c) : am_e q cA M N c = am_e q cA M' N' c := by
  have e : ∀ ts, am_fs q M N c ts = am_fs q M' N' c ts := by
    intro ts
    unfold am_fs
    refine List.map_congr_left fun j _ => ?_
    unfold am_f
    split
    · rw [h1]
    · rw [h2]
    · rfl
  unfold am_e
  split
  · rw [h1]
  · rw [h2]
  · rw [h1]
  · rw [h1]
  · rw [e]
theorem am_w_set {q : am_C → Nat} {cA : Nat → ClassId} {dm : List am_C} {M M' : am_I} {N N' : am_N} {A : Nat → Prop} {k0 : Nat} {c : am_C} (hD : va_D A (am_w q cA dm M N)) (h : dm[k0]? = some c) (hM : ∀ c', c' ≠ c → M' c' = M c') (hN : ∀ c', c' ≠ c → N' c' = N c') :
    (am_w q cA dm M N).set k0 (q c, am_e q cA M' N' c) = am_w q cA dm M' N' := by
  apply List.ext_getElem?
  intro i
  by_cases hi : i = k0
  · subst hi
    have hl : i < (am_w q cA dm M N).length := (List.getElem?_eq_some_iff.mp (am_w_at h)).1
    rw [List.getElem?_set_self hl, am_w_at h]
  · rw [List.getElem?_set_ne (Ne.symm hi)]
    cases hc : dm[i]? with
    | none => simp [am_w, hc]
    | some c' =>
      rw [am_w_at hc, am_w_at hc]
      have hne : c' ≠ c := by
        intro z
        subst z
        exact hi (hD.1 i k0 _ _ (am_w_at hc) (am_w_at h) rfl)
      rw [am_e_congr (hM c' hne).symm (hN c' hne).symm]
theorem am_e_i {q : am_C → Nat} {cA : Nat → ClassId} {M : am_I} {N : am_N} {c : am_C} {n : Nat} (h : am_ly c = (0, n)) : am_e q cA M N c = .inl (cA 0, n, .inl (M c)) := by unfold am_e; rw [h]; rfl
theorem am_e_l {q : am_C → Nat} {cA : Nat → ClassId} {M : am_I} {N : am_N} {c : am_C} {n : Nat} (h : am_ly c = (1, n)) : am_e q cA M N c = .inl (cA 1, n, .inr (.inl (N c))) := by unfold am_e; rw [h]; rfl
theorem am_e_b {q : am_C → Nat} {cA : Nat → ClassId} {M : am_I} {N : am_N} {c : am_C} {n : Nat} (h : am_ly c = (2, n)) : am_e q cA M N c = .inl (cA 2, n, .inl (M c)) := by unfold am_e; rw [h]; rfl
theorem am_e_z {q : am_C → Nat} {cA : Nat → ClassId} {M : am_I} {N : am_N} {c : am_C} {n : Nat} (h : am_ly c = (3, n)) : am_e q cA M N c = .inl (cA 3, n, .inl (M c)) := by unfold am_e; rw [h]; rfl
theorem am_e_o {q : am_C → Nat} {cA : Nat → ClassId} {M : am_I} {N : am_N} {c : am_C} {ci : Nat} (h : am_ly c = (4, ci)) : am_e q cA M N c = .inr (ci, am_fs q M N c (am_ft ci)) := by unfold am_e; rw [h]; rfl
theorem am_fs_at {q : am_C → Nat} {M : am_I} {N : am_N} {c : am_C} {ts : List Nat} {k t : Nat} (h : ts[k]? = some t) : (am_fs q M N c ts)[k]? = some (am_f q M N c k t) := by
  have hl := (List.getElem?_eq_some_iff.mp h).1
  have h2 := (List.getElem?_eq_some_iff.mp h).2
  simp [am_fs, hl, List.getD_eq_getElem?_getD, h2]
theorem am_fs_len {q : am_C → Nat} {M : am_I} {N : am_N} {c : am_C} {ts : List Nat} : (am_fs q M N c ts).length = ts.length := by simp [am_fs]
theorem am_fs_set {q : am_C → Nat} {M M' : am_I} {N N' : am_N} {c : am_C} {ts : List Nat} {k t : Nat} (h : ts[k]? = some t) (hM : ∀ j, j ≠ k → M' c j = M c j) (hN : ∀ j, j ≠ k → N' c j = N c j) :
    (am_fs q M N c ts).set k (am_f q M' N' c k t) = am_fs q M' N' c ts := by
  apply List.ext_getElem?
  intro i
  by_cases hi : i = k
  · subst hi
    have hl : i < (am_fs q M N c ts).length := (List.getElem?_eq_some_iff.mp (am_fs_at h)).1
    rw [List.getElem?_set_self hl, am_fs_at h]
  · rw [List.getElem?_set_ne (Ne.symm hi)]
    cases hc : ts[i]? with
    | none =>
      have h1 : ts.length ≤ i := List.getElem?_eq_none_iff.mp hc
      rw [List.getElem?_eq_none (by rw [am_fs_len]; exact h1), List.getElem?_eq_none (by rw [am_fs_len]; exact h1)]
    | some t' =>
      rw [am_fs_at hc, am_fs_at hc]
      unfold am_f
      split
      · rw [hM i hi]
      · rw [hN i hi]
      · rfl
def am_tys (cA : Nat → ClassId) : List (ClassId × FieldType) := [(cA 0, .int), (cA 1, .long), (cA 2, .byte), (cA 3, .boolean)]
def am_s0 : String := ";+-*/()[]<>="
def am_s1 : String := "take look leave give if or and not weed wet press looks size ill rain given "
def am_slen : List Nat := [12, 76]
def am_sbyt : List (List Int32) := [[59, 43, 45, 42, 47, 40, 41, 91, 93, 60, 62, 61], [116, 97, 107, 101, 32, 108, 111, 111, 107, 32, 108, 101, 97, 118, 101, 32, 103, 105, 118, 101, 32, 105, 102, 32, 111, 114, 32, 97, 110, 100, 32, 110, 111, 116, 32, 119, 101, 101, 100, 32, 119, 101, 116, 32, 112, 114, 101, 115, 115, 32, 108, 111, 111, 107, 115, 32, 115, 105, 122, 101, 32, 105, 108, 108, 32, 114, 97, 105, 110, 32, 103, 105, 118, 101, 110, 32]]
/-- the tables' words that stay as they are; those on nest mates' members -/
def am_tb : List Cond := lw_tbl.filter goodWord
def am_isN (w : Cond) : Bool := match w with
  | .methodLinkNest .. => true
  | .fieldLinkNest .. => true
  | _ => false
def am_nst : List Cond := lw_tbl.filter am_isN
def am_nk (s : State) : Prop := ∀ w ∈ am_nst, va_Nw w s
theorem am_nk_warm {s U : State} (hW : s.WarmedH U.vm) (h : am_nk s) : am_nk U := by
  intro w hw
  have h1 := h w hw
  have h2 := (List.mem_filter.mp hw).2
  cases w <;> first | exact va_Nw.warmF hW h1 | exact va_Nw.warmM hW h1 | (simp [am_isN] at h2)
theorem am_nk_same {s U : State} (hv : s.vm = U.vm) (h : am_nk s) : am_nk U := by
  intro w hw
  have h1 := h w hw
  have h2 := (List.mem_filter.mp hw).2
  cases w <;> first | (simp [am_isN] at h2; done) | exact va_Nw.same rfl hv h1
theorem am_in {w : Cond} (i : Nat) (h : lw_tbl[i]? = some w) (hg : goodWord w = true) : w ∈ am_tb := List.mem_filter.mpr ⟨List.mem_of_getElem? h, hg⟩
theorem am_inN {w : Cond} (i : Nat) (h : lw_tbl[i]? = some w) (hg : am_isN w = true) : w ∈ am_nst := List.mem_filter.mpr ⟨List.mem_of_getElem? h, hg⟩
/-- what lies outside the cells and stays: the two texts of the reader (cells (9, i, 0), their bytes (9, i, 1)), two statics of the JDK's, the words on nest mates -/
def am_sK (q : am_C → Nat) (A : Nat → Prop) (s : State) (H : Heap) : Prop := vk_S 2 am_slen am_sbyt (fun i => q (9, i, 0)) (fun i => q (9, i, 1)) A s H ∧ vk_R RX7 73 am_s0 (q (9, 0, 0)) s ∧ vk_R RX7 86 am_s1 (q (9, 1, 0)) s ∧ va_Z "java/lang/String" "COMPACT_STRINGS" "Z" (.int 1) A s H ∧ va_Zq "jdk/internal/util/Preconditions" "SIOOBE_FORMATTER" "Ljava/util/function/BiFunction;" A s H ∧ am_nk s
theorem am_sK_call {q : am_C → Nat} {A : Nat → Prop} {s U : State} {H : Heap} (hv : s.vm = U.vm) (h : am_sK q A s H) : am_sK q A U H := by
  have ha : s.vm.Alike U.vm := by rw [hv]; exact Vm.Alike.refl U.vm
  exact ⟨h.1.moved ha, vk_R.same hv.symm h.2.1, vk_R.same hv.symm h.2.2.1, h.2.2.2.1.moved ha, h.2.2.2.2.1.moved ha, am_nk_same hv h.2.2.2.2.2⟩
theorem am_sK_in {q : am_C → Nat} {A B : Nat → Prop} {s U : State} {H : Heap} (hW : s.WarmedH U.vm) (hk : ∀ a : Nat, a < s.heap.size → ¬ A a → H[a]? = s.heap[a]?) (hAB : ∀ q, B q → A q) (h : am_sK q A s s.heap) : am_sK q B U H :=
  ⟨((h.1.kept hk).moved hW.alike).narrow hAB, vk_R.warm hW h.2.1, vk_R.warm hW h.2.2.1, ((h.2.2.2.1.kept hk).moved hW.alike).narrow hAB, ((h.2.2.2.2.1.kept hk).moved hW.alike).narrow hAB, am_nk_warm hW h.2.2.2.2.2⟩
/-- what holds while a method runs -/
def am_X (d : Nat) (μ : am_Y) (D : va_G) (cA : Nat → ClassId) (A : Nat → Prop) (q : am_C → Nat) (p : Program) (R : Room) (s : State) (m : MethodId) (args : Array Value) (c : Code) (cells slots : Nat) : Prop :=
  p.tables.exec = Jvm.exec ∧ c.code = μ.2.1 ∧ c.maxLocals = μ.2.2.1 ∧ s.vm.findClass μ.1.cls = some m.cls ∧ (∀ w ∈ am_tb, w.before args s = true) ∧ va_K D am_cl (am_tys cA) s ∧ (∀ z, s.heap.size ≤ z → A z) ∧ d ≤ R.frames ∧ 60 * d ≤ R.locals ∧ cells ≤ R.cells ∧ slots ≤ R.slots ∧ am_sK q A s s.heap
/-- the cells as they are in the heap -/
def am_at (D : va_G) (q : am_C → Nat) (cA : Nat → ClassId) (A : Nat → Prop) (dm : List am_C) (M : am_I) (N : am_N) (s : State) (H : Heap) (locs : List Loc) : Prop :=
  va_P D am_cl (am_w q cA dm M N) H ∧ va_D A (am_w q cA dm M N) ∧ va_S A s.heap H locs
/-- an instruction that returns v -/
def am_rt (cc : ByteArray) (ret : Option FieldType) (pc : Nat) (v : Option am_V) : Prop := match v with
  | none => decode cc pc = .ok (.return_, 1) ∧ ret = none
  | some (.inl x) => decode cc pc = .ok (.ireturn, 1) ∧ ∃ ty, ret = some ty ∧ narrow ty (.int x) = .int x
  | some (.inr (.inl _)) => decode cc pc = .ok (.lreturn, 1) ∧ ret = some .long
  | some (.inr (.inr _)) => False
def am_lc (q : am_C → Nat) (lv : List (Nat × am_V)) : List (Nat × Value) := lv.map (fun e => (e.1, am_v q e.2))
/-- from here on the method comes to its end, with an answer and cells of which 'post' holds -/
def jg (d : Nat) (μ : am_Y) (dm : List am_C) (pc : Nat) (lv : List (Nat × am_V)) (st : List am_V) (M : am_I) (N : am_N) (post : Option am_V → am_I → am_N → Prop) : Prop :=
  ∀ (D : va_G) (q : am_C → Nat) (cA : Nat → ClassId) (A : Nat → Prop) (p : Program) (l : Launch) (e : Env) (R : Room) (s : State) (m : MethodId) (args : Array Value) (below : List Frame) (meth : Method) (c : Code) (Q : State → Prop) (H : Heap) (locs : List Loc) (cells slots : Nat) (ls : Array Slot),
    am_X d μ D cA A q p R s m args c cells slots →
    (∀ (H' : Heap) (locs' : List Loc) (pc' : Nat) (ls' : Array Slot) (v : Option am_V) (M' : am_I) (N' : am_N), am_at D q cA A dm M' N' s H' locs' → post v M' N' → am_rt μ.2.1 μ.2.2.2 pc' v → W p l e R s m args below meth c H' locs' cells slots Q (F0 m pc' ls' ((v.map (am_v q)).toList))) →
    am_at D q cA A dm M N s H locs → lv_has ls μ.2.2.1 (am_lc q lv) → W p l e R s m args below meth c H locs cells slots Q (F0 m pc ls (st.map (am_v q)))
