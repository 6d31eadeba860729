/-! ===== the cells in the order in which they are made ===== -/
def AL : List am_C := [(0, 0, 0), (0, 0, 1), (2, 0, 0), (2, 0, 1), (2, 1, 0), (2, 1, 1), (2, 2, 0), (2, 2, 1), (2, 3, 0), (2, 3, 1), (2, 4, 0), (2, 4, 1), (2, 5, 0), (2, 5, 1), (0, 0, 2), (0, 0, 3), (0, 0, 4), (0, 0, 5), (0, 0, 6), (1, 0, 0), (1, 0, 20), (1, 0, 21), (1, 0, 22), (1, 0, 1), (1, 0, 2), (1, 0, 3), (1, 0, 4), (1, 0, 5), (1, 0, 6), (1, 0, 7), (1, 0, 8), (1, 0, 9), (1, 0, 10), (1, 0, 11), (1, 0, 12), (1, 0, 13), (1, 0, 14), (1, 0, 15), (1, 0, 16), (1, 0, 17), (1, 0, 18), (1, 0, 19), (1, 1, 0), (1, 1, 20), (1, 1, 21), (1, 1, 22), (1, 1, 1), (1, 1, 2), (1, 1, 3), (1, 1, 4), (1, 1, 5), (1, 1, 6), (1, 1, 7), (1, 1, 8), (1, 1, 9), (1, 1, 10), (1, 1, 11), (1, 1, 12), (1, 1, 13), (1, 1, 14), (1, 1, 15), (1, 1, 16), (1, 1, 17), (1, 1, 18), (1, 1, 19), (0, 0, 7), (0, 0, 8), (0, 0, 9), (0, 0, 10), (0, 0, 11), (0, 0, 12), (0, 0, 13), (0, 0, 14), (0, 0, 15), (2, 6, 0), (2, 6, 1), (0, 0, 16), (3, 0, 0), (3, 0, 1), (3, 0, 2), (3, 0, 3), (3, 0, 4), (3, 0, 5), (3, 0, 6), (3, 0, 7), (3, 0, 8), (3, 0, 9), (3, 0, 10), (3, 0, 11), (3, 0, 12), (3, 0, 13), (3, 0, 14), (3, 0, 15), (3, 0, 16), (3, 0, 17), (3, 0, 18), (3, 0, 19), (3, 0, 20), (3, 0, 21), (3, 0, 22), (3, 0, 23), (3, 0, 24), (3, 0, 25), (3, 0, 26), (3, 0, 27), (3, 0, 28), (3, 0, 29), (3, 0, 30), (3, 0, 31), (3, 0, 32), (3, 0, 33), (3, 0, 34), (3, 0, 35), (3, 0, 36), (3, 0, 37), (3, 0, 38), (3, 0, 39), (3, 0, 40), (3, 0, 41), (3, 0, 42), (3, 0, 43), (3, 0, 44)]
def UL : List (am_C × Nat) := [((3, 0, 0), 62), ((3, 0, 0), 61), ((3, 0, 0), 60), ((3, 0, 0), 59), ((3, 0, 0), 58), ((3, 0, 0), 57), ((3, 0, 0), 56), ((3, 0, 0), 55), ((3, 0, 0), 54), ((3, 0, 0), 53), ((3, 0, 0), 52), ((3, 0, 0), 44), ((3, 0, 0), 43), ((3, 0, 0), 41), ((3, 0, 0), 39), ((3, 0, 0), 38), ((3, 0, 0), 37), ((3, 0, 0), 36), ((3, 0, 0), 35), ((3, 0, 0), 34), ((3, 0, 0), 33), ((3, 0, 0), 32), ((3, 0, 0), 29), ((3, 0, 0), 28), ((3, 0, 0), 27), ((3, 0, 0), 26), ((3, 0, 0), 25), ((3, 0, 0), 24), ((3, 0, 0), 23), ((3, 0, 0), 22), ((3, 0, 0), 21), ((3, 0, 0), 20), ((3, 0, 0), 19), ((3, 0, 0), 18), ((3, 0, 0), 17), ((3, 0, 0), 16), ((3, 0, 0), 15), ((3, 0, 0), 9), ((3, 0, 0), 8), ((3, 0, 0), 7), ((3, 0, 0), 6), ((3, 0, 0), 5), ((3, 0, 0), 1), ((3, 0, 0), 0), ((0, 0, 0), 7), ((0, 0, 0), 6), ((0, 0, 15), 0), ((2, 6, 0), 0), ((0, 0, 0), 5), ((0, 0, 12), 1), ((0, 0, 12), 0), ((0, 0, 0), 4), ((0, 0, 7), 3), ((0, 0, 7), 2), ((0, 0, 7), 1), ((0, 0, 7), 0), ((0, 0, 0), 3), ((1, 1, 0), 4), ((1, 1, 14), 0), ((1, 1, 14), 5), ((1, 1, 14), 4), ((1, 1, 14), 3), ((1, 1, 14), 2), ((1, 1, 14), 1), ((1, 1, 0), 3), ((1, 1, 6), 0), ((1, 1, 6), 7), ((1, 1, 6), 6), ((1, 1, 6), 5), ((1, 1, 6), 4), ((1, 1, 6), 3), ((1, 1, 6), 2), ((1, 1, 6), 1), ((1, 1, 0), 2), ((1, 1, 1), 3), ((1, 1, 1), 2), ((1, 1, 1), 1), ((1, 1, 1), 0), ((1, 1, 0), 1), ((1, 1, 0), 0), ((1, 1, 0), 7), ((1, 1, 0), 6), ((1, 1, 0), 5), ((0, 0, 0), 2), ((1, 0, 0), 4), ((1, 0, 14), 0), ((1, 0, 14), 5), ((1, 0, 14), 4), ((1, 0, 14), 3), ((1, 0, 14), 2), ((1, 0, 14), 1), ((1, 0, 0), 3), ((1, 0, 6), 0), ((1, 0, 6), 7), ((1, 0, 6), 6), ((1, 0, 6), 5), ((1, 0, 6), 4), ((1, 0, 6), 3), ((1, 0, 6), 2), ((1, 0, 6), 1), ((1, 0, 0), 2), ((1, 0, 1), 3), ((1, 0, 1), 2), ((1, 0, 1), 1), ((1, 0, 1), 0), ((1, 0, 0), 1), ((1, 0, 0), 0), ((1, 0, 0), 7), ((1, 0, 0), 6), ((1, 0, 0), 5), ((0, 0, 0), 1), ((0, 0, 2), 3), ((0, 0, 2), 2), ((0, 0, 2), 1), ((0, 0, 2), 0), ((0, 0, 0), 0), ((0, 0, 1), 5), ((2, 5, 0), 0), ((0, 0, 1), 4), ((2, 4, 0), 0), ((0, 0, 1), 3), ((2, 3, 0), 0), ((0, 0, 1), 2), ((2, 2, 0), 0), ((0, 0, 1), 1), ((2, 1, 0), 0), ((0, 0, 1), 0), ((2, 0, 0), 0)]
def neV (c0 : am_C) (v : am_V) : Bool := match v with
  | .inr (.inr c) => c != c0
  | _ => true
def okV (dm : List am_C) (v : am_V) : Bool := match v with
  | .inr (.inr c) => dm.contains c
  | _ => true
def nwB (c0 : am_C) (dm dm2 : List am_C) (U : List (am_C × Nat)) (lv : List (Nat × am_V)) (st : List am_V) : Bool := !dm.contains c0 && (dm2.contains c0 && (U.all (fun x => am_pt x.1 x.2 != c0 && x.1 != c0) && (c0.1 != 9 && (lv.all (fun x => neV c0 x.2) && st.all (neV c0)))))
def fulB (U : List (am_C × Nat)) (c : am_C) : Bool := decide ((am_ly c).1 ≤ 4) && ((am_ly c).1 != 4 || (List.range (am_ft (am_ly c).2).length).all (fun j => (am_ft (am_ly c).2).getD j 0 == 0 || ((am_ft (am_ly c).2).getD j 0 == 1 || U.contains (c, j))))
def Zr (k : Nat) (M : am_I) (N : am_N) : Prop := ∀ c ∈ AL.drop k, ∀ j, M c j = 0 ∧ N c j = 0
def WLs (b : Nat) : List am_C := (List.range 23).map (fun i => (1, b, i))
def MLs : List am_C := (List.range 45).map (fun i => (3, 0, i))
def cn0 : Cn := (0, 0, 0, 0, 0)
def BG (b : Nat) (M : am_I) (N : am_N) (M1 : am_I) (N1 : am_N) : Prop := (∀ c : am_C, ¬ (c.1 = 1 ∧ c.2.1 = b) → M1 c = M c ∧ N1 c = N c) ∧ RelW b cn0 (butOf (-1) (-1)) M1 N1 begF 0 0 ∧ M1 (1, b, 0) 9 = nI 0 ∧ M1 (1, b, 0) 12 = -1 ∧ M1 (1, b, 0) 13 = -1
def tabM (t : Nat) (mo wi : Int32) (M : am_I) : am_I := am_u (am_u (am_u M (2, t, 0) 2 mo) (2, t, 0) 1 wi) (2, t, 0) 3 0
def bookM (M : am_I) : am_I := tabM 5 40 1 (tabM 4 5 6 (tabM 3 60 3 (tabM 2 8 5 (tabM 1 30 3 (tabM 0 400 5 M)))))
section LS
variable {d nc ns nc1 ns1 : Nat} {μ ν : am_Y} {dm dm2 : List am_C} {U U1 U2 U3 : List (am_C × Nat)} {pc k k1 k2 i : Nat} {lv : List (Nat × am_V)} {st : List am_V} {M M1 : am_I} {N N1 : am_N} {post post1 : am_I → am_N → Prop} {a c0 : am_C} {x : Int32}
theorem nw_ok (h : nwB c0 dm dm2 U lv st = true) (hz : ∀ j, M c0 j = 0 ∧ N c0 j = 0) : nwC c0 dm dm2 U lv st M N := by
  unfold nwB at h
  simp only [Bool.and_eq_true, Bool.not_eq_true', bne_iff_ne, ne_eq, List.all_eq_true] at h
  obtain ⟨h1, h2, h3, h4, h5, h6⟩ := h
  refine ⟨fun w => ?_, List.contains_iff_mem.mp h2, fun y hy => h3 y hy, h4, fun y hy w => ?_, fun v hv w => ?_, fun j => (hz j).1, fun j => (hz j).2⟩
  · rw [List.contains_iff_mem.mpr w] at h1; exact absurd h1 (by decide)
  · have := h5 y hy
    rw [w] at this
    unfold neV at this
    simp at this
  · have := h6 v hv
    rw [w] at this
    unfold neV at this
    simp at this
theorem ful_of {l : List am_C} (h : l.all (fulB U) = true) : ∀ c ∈ l, fulC U c := by
  intro c hc
  have := List.all_eq_true.mp h c hc
  unfold fulB at this
  simp only [Bool.and_eq_true, decide_eq_true_eq, Bool.or_eq_true, bne_iff_ne, ne_eq, List.all_eq_true, List.mem_range, beq_iff_eq] at this
  obtain ⟨h1, h2⟩ := this
  refine ⟨h1, fun h4 j t ht t0 t1 => ?_⟩
  have hl := (List.getElem?_eq_some_iff.mp ht).1
  have hg : (am_ft (am_ly c).2).getD j 0 = t := by rw [List.getD_eq_getElem?_getD, ht]; rfl
  have h3 := (h2.resolve_left (fun w => w h4)) j hl
  rw [hg] at h3
  rcases h3 with h3 | h3 | h3
  · exact absurd h3 t0
  · exact absurd h3 t1
  · exact List.contains_iff_mem.mp h3
theorem Zr.at (hz : Zr k M N) (h : AL[k]? = some c0) : ∀ j, M c0 j = 0 ∧ N c0 j = 0 := by
  refine hz c0 (List.mem_of_getElem? (i := 0) ?_)
  rw [List.getElem?_drop]
  exact h
theorem Zr.mono (hz : Zr k M N) (h : k ≤ k1) : Zr k1 M N := fun c hc => hz c (by
  have : AL.drop k1 = (AL.drop k).drop (k1 - k) := by rw [List.drop_drop]; congr 1; omega
  rw [this] at hc
  exact List.mem_of_mem_drop hc)
theorem Zr.u (hz : Zr k M N) (ha : (AL.drop k).contains a = false) : Zr k (am_u M a i x) N := fun c hc j => by
  have : c ≠ a := fun w => by
    rw [w] at hc
    rw [List.contains_iff_mem.mpr hc] at ha
    exact absurd ha (by decide)
  rw [am_u_o _ _ _ this]
  exact hz c hc j
theorem Zr.tab {t : Nat} {mo wi : Int32} (ha : (AL.drop k).contains (2, t, 0) = false) (hz : Zr k M N) : Zr k (tabM t mo wi M) N := ((hz.u ha).u ha).u ha
theorem Zr.tab' {t : Nat} {mo wi : Int32} (hz : Zr k M N) (ha : (AL.drop k).contains (2, t, 0) = false) : Zr k (tabM t mo wi M) N := Zr.tab ha hz
theorem Zr.book (ha : (List.range 6).all (fun t => !(AL.drop k).contains (2, t, 0)) = true) (hz : Zr k M N) : Zr k (bookM M) N := by
  have h : ∀ t, t < 6 → (AL.drop k).contains (2, t, 0) = false := fun t ht => by
    have := List.all_eq_true.mp ha t (List.mem_range.mpr ht)
    simpa using this
  exact (((((hz.tab' (h 0 (by decide))).tab' (h 1 (by decide))).tab' (h 2 (by decide))).tab' (h 3 (by decide))).tab' (h 4 (by decide))).tab' (h 5 (by decide))
theorem Zr.bg {b : Nat} (hz : Zr k M N) (ha : (AL.drop k).all (fun c => !(c.1 == 1 && c.2.1 == b)) = true) (h : BG b M N M1 N1) : Zr k M1 N1 := fun c hc j => by
  have := List.all_eq_true.mp ha c hc
  have hn : ¬ (c.1 = 1 ∧ c.2.1 = b) := fun w => by
    rw [w.1, w.2] at this
    simp at this
  rw [(h.1 c hn).1, (h.1 c hn).2]
  exact hz c hc j
theorem tk_s (h : AL[k]? = some c0) : AL.take k ++ [c0] = AL.take (k + 1) := by
  rw [List.take_succ, h]; rfl
theorem x_new {idx ci n : Nat} {C : String} {T : u_T} {ty : Nat → FieldType} (hd : decode μ.2.1 pc = .ok (.new idx, 3)) (hcb : am_CB ci C T n ty) (h1 : Cond.classLink μ.1.cls idx C ∈ am_tb) (h2 : Cond.instantiable C n ∈ am_tb) (h3 : Cond.initialized C ∈ am_tb) (hly : am_ly c0 = (4, ci)) (hdf : ∀ j, j < n → ∃ t, (am_ft ci)[j]? = some t ∧ defaultValue (ty j) = (if t = 0 then .int 0 else if t = 1 then .long 0 else .null)) (hc : AL[k]? = some c0) (hb : nwB c0 (AL.take k) dm2 U lv st = true) (hz : Zr k M N)
    (kk : jn d μ nc ns (AL.take (k + 1)) U (pc + 3) lv (.inr (.inr c0) :: st) M N dm2 U2 post) : jn d μ (nc + 1) (ns + n) (AL.take k) U pc lv st M N dm2 U2 post :=
  n_new hd hcb h1 h2 h3 hly hdf (nw_ok hb (hz.at hc)) (by rw [tk_s hc]; exact kk)
theorem x_ints {n : Nat} (hd : decode μ.2.1 pc = .ok (.newarray .int, 2)) (harr : Cond.arrayClass .int ∈ am_tb) (hly : am_ly c0 = (0, n)) (hx0 : x = nI n) (hn : n ≤ 10000) (hc : AL[k]? = some c0) (hb : nwB c0 (AL.take k) dm2 U lv st = true) (hz : Zr k M N) (kk : jn d μ nc ns (AL.take (k + 1)) U (pc + 2) lv (.inr (.inr c0) :: st) M N dm2 U2 post) : jn d μ (nc + 1) (ns + n) (AL.take k) U pc lv (.inl x :: st) M N dm2 U2 post :=
  n_ints hd harr hly hx0 hn (nw_ok hb (hz.at hc)) (by rw [tk_s hc]; exact kk)
theorem x_longs {n : Nat} (hd : decode μ.2.1 pc = .ok (.newarray .long, 2)) (harr : Cond.arrayClass .long ∈ am_tb) (hly : am_ly c0 = (1, n)) (hx0 : x = nI n) (hn : n ≤ 10000) (hc : AL[k]? = some c0) (hb : nwB c0 (AL.take k) dm2 U lv st = true) (hz : Zr k M N) (kk : jn d μ nc ns (AL.take (k + 1)) U (pc + 2) lv (.inr (.inr c0) :: st) M N dm2 U2 post) : jn d μ (nc + 1) (ns + n) (AL.take k) U pc lv (.inl x :: st) M N dm2 U2 post :=
  n_longs hd harr hly hx0 hn (nw_ok hb (hz.at hc)) (by rw [tk_s hc]; exact kk)
theorem x_bytes {n : Nat} (hd : decode μ.2.1 pc = .ok (.newarray .byte, 2)) (harr : Cond.arrayClass .byte ∈ am_tb) (hly : am_ly c0 = (2, n)) (hx0 : x = nI n) (hn : n ≤ 10000) (hc : AL[k]? = some c0) (hb : nwB c0 (AL.take k) dm2 U lv st = true) (hz : Zr k M N) (kk : jn d μ nc ns (AL.take (k + 1)) U (pc + 2) lv (.inr (.inr c0) :: st) M N dm2 U2 post) : jn d μ (nc + 1) (ns + n) (AL.take k) U pc lv (.inl x :: st) M N dm2 U2 post :=
  n_bytes hd harr hly hx0 hn (nw_ok hb (hz.at hc)) (by rw [tk_s hc]; exact kk)
theorem x_bools {n : Nat} (hd : decode μ.2.1 pc = .ok (.newarray .boolean, 2)) (harr : Cond.arrayClass .boolean ∈ am_tb) (hly : am_ly c0 = (3, n)) (hx0 : x = nI n) (hn : n ≤ 10000) (hc : AL[k]? = some c0) (hb : nwB c0 (AL.take k) dm2 U lv st = true) (hz : Zr k M N) (kk : jn d μ nc ns (AL.take (k + 1)) U (pc + 2) lv (.inr (.inr c0) :: st) M N dm2 U2 post) : jn d μ (nc + 1) (ns + n) (AL.take k) U pc lv (.inl x :: st) M N dm2 U2 post :=
  n_bools hd harr hly hx0 hn (nw_ok hb (hz.at hc)) (by rw [tk_s hc]; exact kk)
theorem x_putR {b : am_C} {idx ci f : Nat} (hd : decode μ.2.1 pc = .ok (.putfield idx, 3)) (hf : am_FN μ.1.cls idx ci f 2) (hc : a ∈ dm) (hly : am_ly a = (4, ci)) (hp : am_pt a f = b) (hu : (a, f) :: U = U3) (kk : jn d μ nc ns dm U3 (pc + 3) lv st M N dm2 U2 post) : jn d μ nc ns dm U pc lv (.inr (.inr b) :: .inr (.inr a) :: st) M N dm2 U2 post := by
  subst hu
  exact n_putR hd hf hc hly hp kk
theorem AL_9 : ∀ c ∈ AL, c.1 ≠ 9 := by decide +kernel
theorem okV_of {v : am_V} {c : am_C} (h : okV dm v = true) (e : v = .inr (.inr c)) : c ∈ dm := by
  rw [e] at h
  exact List.contains_iff_mem.mp h
theorem tk_in {c : am_C} (h : c ∈ AL.take k) (hk : k ≤ k1) : c ∈ AL.take k1 := by
  have : AL.take k = (AL.take k1).take k := by rw [List.take_take, Nat.min_eq_left hk]
  rw [this] at h
  exact List.mem_of_mem_take h
theorem x_call {d' idx n : Nat} {As stA : List am_V} (hd : decode μ.2.1 pc = .ok (.invokespecial idx, 3)) (hs : (Cond.methodLink μ.1.cls idx ν.1 ∈ am_tb ∨ ∃ host, Cond.methodLinkNest μ.1.cls idx ν.1 host ∈ am_nst) ∧ Cond.instanceMethod ν.1 ∈ am_tb) (hB : am_MB ν n) (hret : ν.2.2.2 = none) (hnm : ν.1.name = "<init>") (hn : As.length = n) (hst : stA = As.reverse ++ .inr (.inr a) :: st) (hlen : am_sz (.inr (.inr a) :: As) ≤ ν.2.2.1) (hrest : am_sz st ≤ 8) (hdd : d' < d)
    (hJ : jn d' ν nc1 ns1 (AL.take k) U 0 (am_args 0 (.inr (.inr a) :: As)) [] M N (AL.take k1) U1 post1) (hk : k ≤ k1) (hk2 : k1 ≤ k2) (hlv : lv.all (fun y => okV (AL.take k) y.2) = true) (hsv : st.all (okV (AL.take k)) = true)
    (kk : ∀ M' N', post1 M' N' → jn d μ nc ns (AL.take k1) U1 (pc + 3) lv st M' N' (AL.take k2) U2 post) : jn d μ (nc1 + nc) (ns1 + ns) (AL.take k) U pc lv stA M N (AL.take k2) U2 post :=
  n_call hd hs hB hret hnm hn hst hlen hrest hdd hJ (fun c hc => tk_in hc hk) (fun c hc => tk_in hc hk2) (fun c hc => AL_9 c (List.mem_of_mem_take hc)) (fun y hy c e => okV_of (List.all_eq_true.mp hlv y hy) e) (fun v hv c e => okV_of (List.all_eq_true.mp hsv v hv) e) kk
theorem WLs_sub {b : Nat} (h : (WLs b).all (fun c => dm.contains c) = true) : ∀ c ∈ WLs b, c ∈ dm := fun c hc => List.contains_iff_mem.mp (List.all_eq_true.mp h c hc)
theorem WLs_d1 {b : Nat} (h : b < 2) : am_d1 (WLs b) b := fun i hi => List.mem_map.mpr ⟨i, List.mem_range.mpr hi, rfl⟩
theorem MLs_d3 : am_d3 MLs := fun i hi => List.mem_map.mpr ⟨i, List.mem_range.mpr hi, rfl⟩
theorem AL_1 : ∀ c ∈ AL, c.1 = 1 → c.2.2 < 23 := by decide +kernel
theorem WLs_in (b : Nat) (_h : b < 2) {c : am_C} (hc : c ∈ AL) (w : c.1 = 1 ∧ c.2.1 = b) : c ∈ WLs b := by
  obtain ⟨g, y, i⟩ := c
  have h3 := AL_1 _ hc w.1
  obtain ⟨w1, w2⟩ := w
  have w1' : g = 1 := w1
  have w2' : y = b := w2
  subst w1'
  subst w2'
  exact List.mem_map.mpr ⟨i, List.mem_range.mpr h3, rfl⟩
theorem MLs_in : ∀ c ∈ MLs, c ∈ AL.take 122 := by decide +kernel
end LS
