/-! ===== the reader's two texts: rules of jg on constant Strings ===== -/
def am_sl (i : Nat) : Int32 := Int32.ofNat (am_slen.getD i 0)
def am_sc (i j : Nat) : Int32 := (am_sbyt.getD i []).getD j 0
section JT
variable {d : Nat} {μ : am_Y} {dm : List am_C} {pc : Nat} {lv : List (Nat × am_V)} {st : List am_V} {M : am_I} {N : am_N} {post : Option am_V → am_I → am_N → Prop}
theorem j_ldc0 (hd : decode μ.2.1 pc = .ok (.ldc 73, 2)) (ho : μ.1.cls = RX7) (kk : jg d μ dm (pc + 2) lv (.inr (.inr (9, 0, 0)) :: st) M N post) : jg d μ dm pc lv st M N post :=
  fun D q cA A p l e R s m args below meth c Q H locs cells slots ls hX hr ha hl => va_ldcS hX.1 hX.2.1 (ho ▸ hX.2.2.2.1) hX.2.2.2.2.2.2.2.2.2.2.2.2.1 hd (kk D q cA A p l e R s m args below meth c Q H locs cells slots ls hX hr ha hl)
theorem j_ldc1 (hd : decode μ.2.1 pc = .ok (.ldc 86, 2)) (ho : μ.1.cls = RX7) (kk : jg d μ dm (pc + 2) lv (.inr (.inr (9, 1, 0)) :: st) M N post) : jg d μ dm pc lv st M N post :=
  fun D q cA A p l e R s m args below meth c Q H locs cells slots ls hX hr ha hl => va_ldcS hX.1 hX.2.1 (ho ▸ hX.2.2.2.1) hX.2.2.2.2.2.2.2.2.2.2.2.2.2.1 hd (kk D q cA A p l e R s m args below meth c Q H locs cells slots ls hX hr ha hl)
theorem j_sval {i : Nat} (hi : i < 2) (hd : decode μ.2.1 pc = .ok (.getfield 9, 3)) (hf : Cond.fieldLink μ.1.cls 9 "java/lang/String" "value" "[B" ∈ am_tb) (kk : jg d μ dm (pc + 3) lv (.inr (.inr (9, i, 1)) :: st) M N post) : jg d μ dm pc lv (.inr (.inr (9, i, 0)) :: st) M N post :=
  fun D q cA A p l e R s m args below meth c Q H locs cells slots ls hX hr ha hl => vk_getf hX.1 hX.2.1 (hX.2.2.2.2.2.2.2.2.2.2.2.1.1 i hi).2.2.1 ha.2.2 hX.2.2.2.1 (hX.2.2.2.2.1 _ hf) (fun _ h => h) hd (kk D q cA A p l e R s m args below meth c Q H locs cells slots ls hX hr ha hl)
theorem j_scod {i : Nat} (hi : i < 2) (hd : decode μ.2.1 pc = .ok (.getfield 15, 3)) (hf : Cond.fieldLink μ.1.cls 15 "java/lang/String" "coder" "B" ∈ am_tb) (kk : jg d μ dm (pc + 3) lv (.inl 0 :: st) M N post) : jg d μ dm pc lv (.inr (.inr (9, i, 0)) :: st) M N post :=
  fun D q cA A p l e R s m args below meth c Q H locs cells slots ls hX hr ha hl => vk_getf hX.1 hX.2.1 (hX.2.2.2.2.2.2.2.2.2.2.2.1.1 i hi).2.1 ha.2.2 hX.2.2.2.1 (hX.2.2.2.2.1 _ hf) (fun _ h => h) hd (kk D q cA A p l e R s m args below meth c Q H locs cells slots ls hX hr ha hl)
theorem j_slen {i : Nat} (hi : i < 2) (hd : decode μ.2.1 pc = .ok (.arraylength, 1)) (kk : jg d μ dm (pc + 1) lv (.inl (am_sl i) :: st) M N post) : jg d μ dm pc lv (.inr (.inr (9, i, 1)) :: st) M N post :=
  fun D q cA A p l e R s m args below meth c Q H locs cells slots ls hX hr ha hl => va_tlen hX.1 hX.2.1 (hX.2.2.2.2.2.2.2.2.2.2.2.1.1 i hi).2.2.2 ha.2.2 rfl hd (kk D q cA A p l e R s m args below meth c Q H locs cells slots ls hX hr ha hl)
theorem j_sbyt {i : Nat} {x : Int32} (hi : i < 2) (hd : decode μ.2.1 pc = .ok (.baload, 1)) (hin : vp_in x (am_slen.getD i 0)) (kk : jg d μ dm (pc + 1) lv (.inl (am_sc i x.toNatClampNeg) :: st) M N post) : jg d μ dm pc lv (.inl x :: .inr (.inr (9, i, 1)) :: st) M N post :=
  fun D q cA A p l e R s m args below meth c Q H locs cells slots ls hX hr ha hl => va_tb hX.1 hX.2.1 (hX.2.2.2.2.2.2.2.2.2.2.2.1.1 i hi).2.2.2 ha.2.2 hin rfl hd (kk D q cA A p l e R s m args below meth c Q H locs cells slots ls hX hr ha hl)
theorem j_scmp (hd : decode μ.2.1 pc = .ok (.getstatic 38, 3)) (hf : Cond.fieldLink μ.1.cls 38 "java/lang/String" "COMPACT_STRINGS" "Z" ∈ am_tb) (kk : jg d μ dm (pc + 3) lv (.inl 1 :: st) M N post) : jg d μ dm pc lv st M N post :=
  fun D q cA A p l e R s m args below meth c Q H locs cells slots ls hX hr ha hl => va_gets hX.1 hX.2.1 hX.2.2.2.2.2.2.2.2.2.2.2.2.2.2.1 ha.2.2 hX.2.2.2.1 (hX.2.2.2.2.1 _ hf) (fun _ h => h) hd (kk D q cA A p l e R s m args below meth c Q H locs cells slots ls hX hr ha hl)
theorem j_nret {x : Int32} {ty : FieldType} (hd : decode μ.2.1 pc = .ok (.ireturn, 1)) (h0 : μ.2.2.2 = some ty) (hx : narrow ty (.int x) = .int x) (hp : post (some (.inl x)) M N) : jg d μ dm pc lv [.inl x] M N post :=
  fun D q cA A p l e R s m args below meth c Q H locs cells slots ls hX hr ha hl => hr H locs pc ls (some (.inl x)) M N ha hp ⟨hd, _, h0, hx⟩
end JT
section JU
variable {d d' : Nat} {μ ν : am_Y} {dm : List am_C} {pc : Nat} {lv : List (Nat × am_V)} {st : List am_V} {M : am_I} {N : am_N} {post post2 : Option am_V → am_I → am_N → Prop}
set_option maxHeartbeats 1000000 in
/-- a call of a method of String on one of the texts -/
theorem j_invT {idx n i : Nat} {As stA : List am_V} (hi : i < 2) (hd : decode μ.2.1 pc = .ok (.invokevirtual idx, 3)) (hs : am_VS μ.1.cls idx ν) (hcl : ν.1.cls = "java/lang/String") (hB : am_MB ν n) (hn : As.length = n) (hst : stA = As.reverse ++ .inr (.inr (9, i, 0)) :: st) (hlen : am_sz (.inr (.inr (9, i, 0)) :: As) ≤ ν.2.2.1) (hrest : am_sz st ≤ 8) (hdd : d' < d)
    (hJ : jg d' ν dm 0 (am_args 0 (.inr (.inr (9, i, 0)) :: As)) [] M N post2) (kk : ∀ v M' N', post2 v M' N' → jg d μ dm (pc + 3) lv (v.toList ++ st) M' N' post) : jg d μ dm pc lv stA M N post := by
  intro D q cA A p l e R s m args below meth c Q H locs cells slots ls hX hr ha hl
  obtain ⟨hx, hb, hml, hown, hts, hK, hA, hf, hlo, hce, hslo, hsk⟩ := id hX
  have hM := j_met hB hlen hJ l D q cA H.size
  have hG := am_ws_good ν hB
  have hrm : (am_rm d').frames + 1 ≤ R.frames ∧ 8 + (ν.2.2.1 + 11) + (am_rm d').locals ≤ R.locals := by
    have h5 := hB.2.2.2.2
    show d' + 1 ≤ R.frames ∧ 8 + (ν.2.2.1 + 11) + 60 * d' ≤ R.locals
    omega
  have hstk : (stA.map (am_v q)) = (As.map (am_v q)).reverse ++ .ref (q (9, i, 0)) :: st.map (am_v q) := by rw [hst, List.map_append, List.map_reverse]; rfl
  have hroom : 2 * (F0 m pc ls (stA.map (am_v q))).monitorRoom + ((st.map (am_v q)).map fun v => v.category).sum ≤ 8 := lv_room (by rw [am_cats]; exact hrest)
  have hrecv : ∃ cellB : Cell, H[q (9, i, 0)]? = some cellB ∧ cellB.vm.isStatics = false ∧ s.vm.findClass ν.1.cls = some cellB.cls := by
    rw [hcl]
    exact vk_recv hsk.1 hi ha.2.2
  have hpre := am_pre (As := .inr (.inr (9, i, 0)) :: As) hK hsk ha hA
  have run : va_Run p l e R s m args below meth c H locs cells slots 0 0 (F0 m pc ls (stA.map (am_v q))) (st.map (am_v q)) (am_Qc D q cA dm (am_w q cA dm M N) H.size post2 (Value.ref (q (9, i, 0)) :: As.map (am_v q)).toArray) (va_A (am_w q cA dm M N) H.size) := by
    rcases hs.1 with h | ⟨host, h⟩
    · exact va_runV (C := ν.1.cls) ⟨hx, hb, hml, hown, hts⟩ hM ⟨callB_of n hts hG rfl rfl rfl (hts _ hB.2.2.1) (hts _ h) hB.2.2.2.1 hrm, hts _ hs.2.1, hts _ hs.2.2⟩ ⟨hpre.1, hrecv, hpre.2⟩ rfl (by rw [List.length_map]; exact hn) hl.1 hstk hroom hd ⟨hce, hslo⟩
    · exact va_runVN (C := ν.1.cls) ⟨hx, hb, hml, hown, hts⟩ hM ⟨va_cnB n hts hG rfl rfl rfl (hsk.2.2.2.2.2 _ h) (hts _ hB.2.2.1) hB.2.2.2.1 hrm, hts _ hs.2.1, hts _ hs.2.2⟩ ⟨hpre.1, hrecv, hpre.2⟩ rfl (by rw [List.length_map]; exact hn) hl.1 hstk hroom hd ⟨hce, hslo⟩
  refine am_call run ha hA (fun v M' N' H1 locs1 hp ha1 => ?_)
  have := kk v M' N' hp D q cA A p l e R s m args below meth c Q H1 locs1 cells slots ls hX hr ha1 hl
  cases v with
  | none => exact this
  | some v => exact this
end JU
/-! String.checkIndex and Preconditions.checkIndex, by their code -/
def am_Qk (v : Option Value) : Array Value → State → Outcome → State → Prop := fun _ st oc t => oc = .returned v ∧ t.heap = st.heap
def mJ3_ci : am_Y := (yJ3_checkIndex_8e157, cJ3_checkIndex_8e157, 3, some .int)
def mJ0_ci : am_Y := (yJ0_checkIndex_df160, cJ0_checkIndex_df160, 2, none)
theorem dJ3_ci_0 : decode mJ3_ci.2.1 0 = .ok (.iload_n 0, 1) := by decide +kernel
theorem dJ3_ci_1 : decode mJ3_ci.2.1 1 = .ok (.ifCond .lt 8, 3) := by decide +kernel
theorem dJ3_ci_4 : decode mJ3_ci.2.1 4 = .ok (.iload_n 0, 1) := by decide +kernel
theorem dJ3_ci_5 : decode mJ3_ci.2.1 5 = .ok (.iload_n 1, 1) := by decide +kernel
theorem dJ3_ci_6 : decode mJ3_ci.2.1 6 = .ok (.if_icmp .lt 10, 3) := by decide +kernel
theorem dJ3_ci_16 : decode mJ3_ci.2.1 16 = .ok (.iload_n 0, 1) := by decide +kernel
theorem dJ3_ci_17 : decode mJ3_ci.2.1 17 = .ok (.ireturn, 1) := by decide +kernel
theorem dJ0_ci_0 : decode mJ0_ci.2.1 0 = .ok (.iload_n 0, 1) := by decide +kernel
theorem dJ0_ci_1 : decode mJ0_ci.2.1 1 = .ok (.iload_n 1, 1) := by decide +kernel
theorem dJ0_ci_2 : decode mJ0_ci.2.1 2 = .ok (.getstatic 1053, 3) := by decide +kernel
theorem dJ0_ci_5 : decode mJ0_ci.2.1 5 = .ok (.invokestatic 1059, 3) := by decide +kernel
theorem dJ0_ci_8 : decode mJ0_ci.2.1 8 = .ok (.pop, 1) := by decide +kernel
theorem dJ0_ci_9 : decode mJ0_ci.2.1 9 = .ok (.return_, 1) := by decide +kernel
set_option maxHeartbeats 1000000 in
theorem met_J3_ci (l : Launch) {x n : Int32} {v : Value} (hv : v = .null ∨ ∃ t, v = .ref t) (h1 : ¬ x < 0) (h2 : x < n) : Met l mJ3_ci.1 (am_ws mJ3_ci) (am_rm 1) (va_Pc [.int x, .int n, v] (fun _ => True)) (am_Qk (some (.int x))) 0 0 (fun _ => False) := by
  refine am_ofW (cc := mJ3_ci.2.1) (maxL := 3) (ret := some .int) (by decide +kernel) rfl ?_
  intro p e s m args below meth c s₁ B hml hv0
  obtain ⟨rfl, -⟩ := hv0
  have hx := B.exec
  have hb := B.bytes
  have hr := B.returns
  have hlocks := B.notSynchronized
  have hl := lv_entry ([.int x, .int n, v]) (n := 3) (by rcases hv with rfl | ⟨t, rfl⟩ <;> exact Nat.le_of_ble_eq_true rfl)
  rw [lg_entry_eq]
  have hl : lv_has _ 3 [(0, .int x), (1, .int n)] := lv_sub hl [0, 1] rfl
  refine lv_iload_n hx hb dJ3_ci_0 rfl (lv_at hl 0 rfl) ?_
  refine lv_if_lt (tgt := 9) hx hb dJ3_ci_1 (by decide) (fun h => absurd h h1) (fun _ => ?_)
  refine lv_iload_n hx hb dJ3_ci_4 rfl (lv_at hl 0 rfl) ?_
  refine lv_iload_n hx hb dJ3_ci_5 rfl (lv_at hl 1 rfl) ?_
  refine lv_icmp_lt (tgt := 16) hx hb dJ3_ci_6 (by decide) (fun _ => ?_) (fun h => absurd h2 h)
  refine lv_iload_n hx hb dJ3_ci_16 rfl (lv_at hl 0 rfl) ?_
  exact W.iret hx hb hr (fun t ht hW => ⟨rfl, ht⟩) (fun q hq => by cases hq) dJ3_ci_17
section JW
variable {p : Program} {l : Launch} {e : Env} {R : Room} {s : State} {m : MethodId} {args : Array Value} {below : List Frame} {meth : Method} {c : Code} {H : Heap} {locs : List Loc} {cells slots : Nat} {Q : State → Prop}
/-- behind a call that leaves the heap as it was -/
theorem am_callK {a : Array Value} {pc : Nat} {ls : Array Slot} {st0 rest : List Value} {v : Option Value}
    (hr : va_Run p l e R s m args below meth c H locs cells slots 0 0 (F0 m pc ls st0) rest (am_Qk v a) (fun _ => False))
    (kk : W p l e R s m args below meth c H locs cells slots Q (F0 m (pc + 3) ls (v.toList ++ rest))) : W p l e R s m args below meth c H locs cells slots Q (F0 m pc ls st0) := by
  intro T hT X
  obtain ⟨v', st₀, t, T', L, h0, X', hL, e1, e2, ⟨hv, hh⟩, st⟩ := hr T hT X
  cases hv
  have hLn : L = [] := by
    cases L with
    | nil => rfl
    | cons z zs => exact absurd (hL z List.mem_cons_self) id
  subst hLn
  rw [List.append_nil] at X'
  obtain ⟨t2, a1, b1⟩ := kk T' (by rw [e1, hh, h0]) X'
  exact ⟨t2, st t2 a1, b1⟩
end JW
def am_fmt (A : Nat → Prop) (U : State) (H : Heap) : Prop := va_Zq "jdk/internal/util/Preconditions" "SIOOBE_FORMATTER" "Ljava/util/function/BiFunction;" A U H
theorem lkS_9 : Cond.fieldLink RJ0 9 "java/lang/String" "value" "[B" ∈ am_tb := am_in8 175 rfl rfl
theorem lkS_15 : Cond.fieldLink RJ0 15 "java/lang/String" "coder" "B" ∈ am_tb := am_in8 174 rfl rfl
theorem lkS_38 : Cond.fieldLink RJ0 38 "java/lang/String" "COMPACT_STRINGS" "Z" ∈ am_tb := am_in5 35 rfl rfl
theorem mbJ3_ci : am_MB mJ3_ci 3 := ⟨by decide +kernel, am_in5 125 rfl rfl, am_in1 21 rfl rfl, ⟨by decide, by decide, by decide +kernel⟩, by decide⟩
theorem mbJ0_ci : am_MB mJ0_ci 2 := ⟨by decide +kernel, am_in5 122 rfl rfl, am_in1 18 rfl rfl, ⟨by decide, by decide, by decide +kernel⟩, by decide⟩
theorem lkJ0_ci_f : Cond.fieldLink mJ0_ci.1.cls 1053 "jdk/internal/util/Preconditions" "SIOOBE_FORMATTER" "Ljava/util/function/BiFunction;" ∈ am_tb := am_in5 76 rfl rfl
theorem lkJ0_ci_m : Cond.methodLink mJ0_ci.1.cls 1059 mJ3_ci.1 ∈ am_tb := am_in5 123 rfl rfl
theorem lkJ3_ci_s : Cond.static mJ3_ci.1 ∈ am_tb := am_in5 124 rfl rfl
theorem lkJ0_ci_s : Cond.static mJ0_ci.1 ∈ am_tb := am_in5 121 rfl rfl
theorem lkJ1_ci_m : Cond.methodLink RJ1 9 mJ0_ci.1 ∈ am_tb := am_in5 120 rfl rfl
set_option maxHeartbeats 1000000 in
theorem met_J0_ci (l : Launch) {x n : Int32} {A : Nat → Prop} (h1 : ¬ x < 0) (h2 : x < n) : Met l mJ0_ci.1 (am_ws mJ0_ci) (am_rm 2) (va_Pc [.int x, .int n] (fun U => am_fmt A U U.heap)) (am_Qk none) 0 0 (fun _ => False) := by
  refine am_ofW (cc := mJ0_ci.2.1) (maxL := 2) (ret := none) (by decide +kernel) rfl ?_
  intro p e s m args below meth c s₁ B hml hv0
  obtain ⟨rfl, hZ⟩ := hv0
  have hx := B.exec
  have hb := B.bytes
  have hr := B.returns
  have hlocks := B.notSynchronized
  have hts0 := atoms_spec (ws := am_ws mJ0_ci) B.pre
  have hts : ∀ w ∈ am_tb, w.before ([.int x, .int n] : List Value).toArray s = true := fun w hw => hts0 w (List.mem_cons_of_mem _ hw)
  have hown : s.vm.findClass mJ0_ci.1.cls = some m.cls := findClass_of_methodNamed B.named
  have hl := lv_entry ([.int x, .int n]) (n := 2) (Nat.le_of_ble_eq_true rfl)
  rw [lg_entry_eq]
  have hl : lv_has _ 2 [(0, .int x), (1, .int n)] := hl
  have go : ∀ v : Value, (v = .null ∨ ∃ t, v = .ref t) → va_Z "jdk/internal/util/Preconditions" "SIOOBE_FORMATTER" "Ljava/util/function/BiFunction;" v A s s.heap →
      W p l e (headSpec (am_ws mJ0_ci) (am_rm 2)).room s m ([.int x, .int n] : List Value).toArray below meth c s.heap [] 0 0 (MQ below (am_Qk none) ([.int x, .int n] : List Value).toArray s 0 0 (fun _ => False)) (F0 m 0 ((lg_sl ([.int x, .int n] : List Value) ++ List.replicate (2 - (lg_sl ([.int x, .int n] : List Value)).length) Slot.unset).toArray) []) := by
    intro v hv hZv
    refine lv_iload_n hx hb dJ0_ci_0 rfl (lv_at hl 0 rfl) ?_
    refine lv_iload_n hx hb dJ0_ci_1 rfl (lv_at hl 1 rfl) ?_
    refine va_gets hx hb hZv va_S.rf hown (hts _ lkJ0_ci_f) (fun _ h => h) dJ0_ci_2 ?_
    refine am_callK (va_runS (As := [.int x, .int n, v]) (rest := []) ⟨hx, hb, hml, hown, hts⟩ (met_J3_ci l hv h1 h2) ⟨callB_of 3 hts (am_ws_good mJ3_ci mbJ3_ci) rfl rfl rfl (hts _ mbJ3_ci.2.2.1) (hts _ lkJ0_ci_m) mbJ3_ci.2.2.2.1 ⟨Nat.le_of_ble_eq_true rfl, Nat.le_of_ble_eq_true rfl⟩, hts _ lkJ3_ci_s⟩ ⟨fun a U g mk h => ⟨h.1, trivial⟩, fun U hU hW => ⟨rfl, trivial⟩⟩ rfl rfl hl.1 rfl (lv_room (Nat.le_of_ble_eq_true rfl)) dJ0_ci_5 ⟨Nat.le_refl _, Nat.le_refl _⟩) ?_
    refine lv_pop (va := .int x) hx hb dJ0_ci_8 rfl ?_
    exact W.vret hx hb hr (fun t ht hW => ⟨rfl, ht⟩) (fun q hq => by cases hq) dJ0_ci_9
  rcases hZ with hZ | ⟨t, hZ⟩
  · exact go _ (Or.inl rfl) hZ
  · exact go _ (Or.inr ⟨t, rfl⟩) hZ
section JX
variable {d : Nat} {μ : am_Y} {dm : List am_C} {pc : Nat} {lv : List (Nat × am_V)} {st : List am_V} {M : am_I} {N : am_N} {post : Option am_V → am_I → am_N → Prop}
set_option maxHeartbeats 1000000 in
theorem j_chk {x n : Int32} (hd : decode μ.2.1 pc = .ok (.invokestatic 9, 3)) (ho : μ.1.cls = RJ1) (h1 : ¬ x < 0) (h2 : x < n) (hrest : am_sz st ≤ 8) (hdd : 2 < d)
    (kk : jg d μ dm (pc + 3) lv st M N post) : jg d μ dm pc lv (.inl n :: .inl x :: st) M N post := by
  intro D q cA A p l e R s m args below meth c Q H locs cells slots ls hX hr ha hl
  obtain ⟨hx, hb, hml, hown, hts, hK, hA, hf, hlo, hce, hslo, hsk⟩ := id hX
  have hfm : am_fmt A s s.heap := hsk.2.2.2.2.1
  rw [ho] at hown
  have hroom : 2 * (F0 m pc ls ((Sum.inl n :: Sum.inl x :: st : List am_V).map (am_v q))).monitorRoom + ((st.map (am_v q)).map fun v => v.category).sum ≤ 8 := lv_room (by rw [am_cats]; exact hrest)
  refine am_callK (v := none) (va_runS (As := [.int x, .int n]) (rest := st.map (am_v q)) ⟨hx, hb, hml, hown, hts⟩ (met_J0_ci l (A := A) h1 h2) ⟨callB_of 2 hts (am_ws_good mJ0_ci mbJ0_ci) rfl rfl rfl (hts _ mbJ0_ci.2.2.1) (hts _ lkJ1_ci_m) mbJ0_ci.2.2.2.1 ?_, hts _ lkJ0_ci_s⟩ ⟨fun a U g mk h => ⟨h.1, va_Zq.moved (u := U) (U := U.calling g mk a) (Vm.Alike.refl U.vm) h.2⟩, fun U hU hW => ⟨rfl, ?_⟩⟩ rfl rfl hl.1 rfl hroom hd ⟨hce, hslo⟩) (kk D q cA A p l e R s m args below meth c Q H locs cells slots ls hX hr ha hl)
  · show 2 + 1 ≤ R.frames ∧ 8 + (2 + 11) + 60 * 2 ≤ R.locals
    omega
  · show am_fmt A U U.heap
    rw [hU]
    exact (hfm.kept (fun a h1 h2 => ha.2.2.2.1 a h1 h2)).moved hW.alike
end JX
