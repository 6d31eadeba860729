/-! ===== the law: its rules ===== -/
def lwS : Nat := 29242
def lwX (L : Nat) (xs : Nat → Int32) (D : va_G) (cA : Nat → ClassId) (q : am_C → Nat) (p : Program) (s : State) (m : MethodId) (meth : Method) (c : Code) : Prop :=
  p.tables.exec = Jvm.exec ∧ c.code = code ∧ c.maxLocals = 4 ∧ s.vm.findClass R_law = some m.cls ∧ (∀ w ∈ am_tb, w.before #[Value.ref (q (8, 0, 0))] s = true) ∧ va_K D am_cl (am_tys cA) s ∧ am_sK q (fun z => s.heap.size ≤ z) s s.heap ∧ va_X (q (8, 0, 0)) L xs s s.heap ∧ q (8, 0, 0) < s.heap.size ∧ meth.sig.returnType = ret ∧ meth.locks = false
def jl (L : Nat) (xs : Nat → Int32) (pc : Nat) (lv : List (Nat × am_V)) (st : List am_V) (M : am_I) (N : am_N) : Prop :=
  ∀ (D : va_G) (q : am_C → Nat) (cA : Nat → ClassId) (p : Program) (l : Launch) (e : Env) (s : State) (m : MethodId) (below : List Frame) (meth : Method) (c : Code) (H : Heap) (locs : List Loc) (ls : Array Slot),
    lwX L xs D cA q p s m meth c → am_at D q cA (fun z => s.heap.size ≤ z) AL M N s H locs → lv_has ls 4 (am_lc q lv) → W p l e room_1 s m #[Value.ref (q (8, 0, 0))] below meth c H locs 122 lwS (lw_Z below #[Value.ref (q (8, 0, 0))] s) (F0 m pc ls (st.map (am_v q)))
section JL
variable {L : Nat} {xs : Nat → Int32} {pc : Nat} {lv : List (Nat × am_V)} {st : List am_V} {M : am_I} {N : am_N}
theorem l_aload_n (k : Nat) {n : Fin 4} {x : am_C} (hd : decode code pc = .ok (.aload_n n, 1)) (hk : lv[k]? = some ((n : Nat), .inr (.inr x))) (kk : jl L xs (pc + 1) lv (.inr (.inr x) :: st) M N) : jl L xs pc lv st M N :=
  fun D q cA p l e s m below meth c H locs ls hX ha hl => lv_aload_n hX.1 hX.2.1 hd rfl (lv_at hl k (am_lc_at hk)) (kk D q cA p l e s m below meth c H locs ls hX ha hl)
theorem l_iload_n (k : Nat) {n : Fin 4} {x : Int32} (hd : decode code pc = .ok (.iload_n n, 1)) (hk : lv[k]? = some ((n : Nat), .inl x)) (kk : jl L xs (pc + 1) lv (.inl x :: st) M N) : jl L xs pc lv st M N :=
  fun D q cA p l e s m below meth c H locs ls hX ha hl => lv_iload_n hX.1 hX.2.1 hd rfl (lv_at hl k (am_lc_at hk)) (kk D q cA p l e s m below meth c H locs ls hX ha hl)
theorem l_iconst {n : Int} {v : Int32} (hd : decode code pc = .ok (.iconst n, 1)) (hv : Int32.ofInt n = v) (kk : jl L xs (pc + 1) lv (.inl v :: st) M N) : jl L xs pc lv st M N :=
  fun D q cA p l e s m below meth c H locs ls hX ha hl => lv_iconst hX.1 hX.2.1 hd hv (kk D q cA p l e s m below meth c H locs ls hX ha hl)
theorem l_bipush {n : Int} {v : Int32} (hd : decode code pc = .ok (.bipush n, 2)) (hv : (Int8.ofInt n).toInt32 = v) (kk : jl L xs (pc + 2) lv (.inl v :: st) M N) : jl L xs pc lv st M N :=
  fun D q cA p l e s m below meth c H locs ls hX ha hl => lv_bipush hX.1 hX.2.1 hd hv (kk D q cA p l e s m below meth c H locs ls hX ha hl)
theorem l_iadd {x y : Int32} (hd : decode code pc = .ok (.iadd, 1)) (kk : jl L xs (pc + 1) lv (.inl (x + y) :: st) M N) : jl L xs pc lv (.inl y :: .inl x :: st) M N :=
  fun D q cA p l e s m below meth c H locs ls hX ha hl => lv_iadd hX.1 hX.2.1 hd (kk D q cA p l e s m below meth c H locs ls hX ha hl)
theorem l_isub {x y : Int32} (hd : decode code pc = .ok (.isub, 1)) (kk : jl L xs (pc + 1) lv (.inl (x - y) :: st) M N) : jl L xs pc lv (.inl y :: .inl x :: st) M N :=
  fun D q cA p l e s m below meth c H locs ls hX ha hl => lv_isub hX.1 hX.2.1 hd (kk D q cA p l e s m below meth c H locs ls hX ha hl)
theorem l_iand {x y : Int32} (hd : decode code pc = .ok (.iand, 1)) (kk : jl L xs (pc + 1) lv (.inl (x &&& y) :: st) M N) : jl L xs pc lv (.inl y :: .inl x :: st) M N :=
  fun D q cA p l e s m below meth c H locs ls hX ha hl => lv_iand hX.1 hX.2.1 hd (kk D q cA p l e s m below meth c H locs ls hX ha hl)
theorem l_sld {i : Int32} (hd : decode code pc = .ok (.iaload, 1)) (hin : vp_in i L) (kk : jl L xs (pc + 1) lv (.inl (xs i.toNatClampNeg) :: st) M N) : jl L xs pc lv (.inl i :: .inr (.inr (8, 0, 0)) :: st) M N :=
  fun D q cA p l e s m below meth c H locs ls hX ha hl => va_sld hX.1 hX.2.1 hX.2.2.2.2.2.2.2.1 hX.2.2.2.2.2.2.2.2.1 (Nat.not_le.mpr hX.2.2.2.2.2.2.2.2.1) ha.2.2 hin hd (kk D q cA p l e s m below meth c H locs ls hX ha hl)
theorem l_slen (hd : decode code pc = .ok (.arraylength, 1)) (kk : jl L xs (pc + 1) lv (.inl (nI L) :: st) M N) : jl L xs pc lv (.inr (.inr (8, 0, 0)) :: st) M N :=
  fun D q cA p l e s m below meth c H locs ls hX ha hl => va_slen hX.1 hX.2.1 hX.2.2.2.2.2.2.2.1 hX.2.2.2.2.2.2.2.2.1 (Nat.not_le.mpr hX.2.2.2.2.2.2.2.2.1) ha.2.2 hd (kk D q cA p l e s m below meth c H locs ls hX ha hl)
theorem l_icmp_eq {x y : Int32} {off : Int} {tgt : Nat} (hd : decode code pc = .ok (.if_icmp .eq off, 3)) (ht : (pc : Int) + off = (tgt : Int)) (kt : x = y → jl L xs tgt lv st M N) (kf : ¬ (x = y) → jl L xs (pc + 3) lv st M N) : jl L xs pc lv (.inl y :: .inl x :: st) M N :=
  fun D q cA p l e s m below meth c H locs ls hX ha hl => lv_icmp_eq hX.1 hX.2.1 hd ht (fun h => kt h D q cA p l e s m below meth c H locs ls hX ha hl) (fun h => kf h D q cA p l e s m below meth c H locs ls hX ha hl)
theorem l_icmp_gt {x y : Int32} {off : Int} {tgt : Nat} (hd : decode code pc = .ok (.if_icmp .gt off, 3)) (ht : (pc : Int) + off = (tgt : Int)) (kt : y < x → jl L xs tgt lv st M N) (kf : ¬ (y < x) → jl L xs (pc + 3) lv st M N) : jl L xs pc lv (.inl y :: .inl x :: st) M N :=
  fun D q cA p l e s m below meth c H locs ls hX ha hl => lv_icmp_gt hX.1 hX.2.1 hd ht (fun h => kt h D q cA p l e s m below meth c H locs ls hX ha hl) (fun h => kf h D q cA p l e s m below meth c H locs ls hX ha hl)
theorem l_if_eq {x : Int32} {off : Int} {tgt : Nat} (hd : decode code pc = .ok (.ifCond .eq off, 3)) (ht : (pc : Int) + off = (tgt : Int)) (kt : x = 0 → jl L xs tgt lv st M N) (kf : ¬ (x = 0) → jl L xs (pc + 3) lv st M N) : jl L xs pc lv (.inl x :: st) M N :=
  fun D q cA p l e s m below meth c H locs ls hX ha hl => lv_if_eq hX.1 hX.2.1 hd ht (fun h => kt h D q cA p l e s m below meth c H locs ls hX ha hl) (fun h => kf h D q cA p l e s m below meth c H locs ls hX ha hl)
theorem l_lcmp_eq {x y : Int64} {off : Int} {tgt : Nat} (hd : decode code pc = .ok (.lcmp, 1)) (hd2 : decode code (pc + 1) = .ok (.ifCond .eq off, 3)) (ht : ((pc + 1 : Nat) : Int) + off = (tgt : Int)) (kt : x = y → jl L xs tgt lv st M N) (kf : ¬ (x = y) → jl L xs (pc + 1 + 3) lv st M N) : jl L xs pc lv (.inr (.inl y) :: .inr (.inl x) :: st) M N :=
  fun D q cA p l e s m below meth c H locs ls hX ha hl => W.lcmp hX.1 hX.2.1 hd (lv_if_eq hX.1 hX.2.1 hd2 ht (fun h => kt ((am_cmp_eq x y).mp h) D q cA p l e s m below meth c H locs ls hX ha hl) (fun h => kf (fun z => h ((am_cmp_eq x y).mpr z)) D q cA p l e s m below meth c H locs ls hX ha hl))
theorem l_goto {off : Int} {tgt : Nat} (hd : decode code pc = .ok (.goto off, 3)) (ht : (pc : Int) + off = (tgt : Int)) (kk : jl L xs tgt lv st M N) : jl L xs pc lv st M N :=
  fun D q cA p l e s m below meth c H locs ls hX ha hl => lv_goto hX.1 hX.2.1 hd ht (kk D q cA p l e s m below meth c H locs ls hX ha hl)
theorem l_iinc (k : Nat) {lv2 : List (Nat × am_V)} {i : Nat} {n : Int} {x : Int32} {v : Int32} (hd : decode code pc = .ok (.iinc i n, 3)) (hk : lv[k]? = some (i, .inl x)) (hv : x + Int32.ofInt n = v) (hn : i < 4) (hs : am_st1 lv i (.inl v) = lv2) (kk : jl L xs (pc + 3) lv2 st M N) : jl L xs pc lv st M N :=
  fun D q cA p l e s m below meth c H locs ls hX ha hl => lv_iinc hX.1 hX.2.1 hd hl (am_lc_at hk) hv hn ((am_lc_st1 q lv i (.inl v)).trans (congrArg (am_lc q) hs)) (fun ls hl => kk D q cA p l e s m below meth c H locs ls hX ha hl)
theorem l_istore_n {lv2 : List (Nat × am_V)} {n : Fin 4} {x : Int32} (hd : decode code pc = .ok (.istore_n n, 1)) (hs : am_st1 lv (n : Nat) (.inl x) = lv2) (kk : jl L xs (pc + 1) lv2 st M N) : jl L xs pc lv (.inl x :: st) M N :=
  fun D q cA p l e s m below meth c H locs ls hX ha hl => lv_istore_n hX.1 hX.2.1 hd rfl hl n.isLt ((am_lc_st1 q lv (n : Nat) (.inl x)).trans (congrArg (am_lc q) hs)) (fun ls hl => kk D q cA p l e s m below meth c H locs ls hX ha hl)
theorem l_out {dflt lo hi : Int} {offs : Array Int} {len : Nat} {x : Int32} {tgt : Nat} (hd : decode code pc = .ok (.tableswitch dflt lo hi offs, len)) (h : x.toInt < lo ∨ hi < x.toInt) (ht : (pc : Int) + dflt = (tgt : Int)) (kk : jl L xs tgt lv st M N) : jl L xs pc lv (.inl x :: st) M N :=
  fun D q cA p l e s m below meth c H locs ls hX ha hl => lv_tableOut hX.1 hX.2.1 hd h ht (kk D q cA p l e s m below meth c H locs ls hX ha hl)
theorem l_in {dflt lo hi : Int} {offs : Array Int} {len : Nat} {x : Int32} {off : Int} {tgt : Nat} (hd : decode code pc = .ok (.tableswitch dflt lo hi offs, len)) (h1 : ¬ x.toInt < lo) (h2 : ¬ hi < x.toInt) (ho : offs[(x.toInt - lo).toNat]? = some off) (ht : (pc : Int) + off = (tgt : Int)) (kk : jl L xs tgt lv st M N) : jl L xs pc lv (.inl x :: st) M N :=
  fun D q cA p l e s m below meth c H locs ls hX ha hl => lv_tableIn hX.1 hX.2.1 hd h1 h2 ho ht (kk D q cA p l e s m below meth c H locs ls hX ha hl)
/-- the end -/
theorem l_ret (hd : decode code pc = .ok (.ireturn, 1)) : jl L xs pc lv [.inl 1] M N := fun D q cA p l e s m below meth c H locs ls hX ha hl => by
  refine va_forget (fun z hz => ha.2.2.2.2 z hz) ?_
  refine W.widen (k := 600000) (n := 7302250) (by decide) (by decide) ?_
  exact lw_ret hX.1 hX.2.1 hX.2.2.2.2.2.2.2.2.2.1 hX.2.2.2.2.2.2.2.2.2.2 hd
set_option maxHeartbeats 1000000 in
theorem l_inv {idx n ci nf d' : Nat} {a : am_C} {T : u_T} {As stA : List am_V} {ν : am_Y} {post2 : Option am_V → am_I → am_N → Prop} (hd : decode code pc = .ok (.invokevirtual idx, 3)) (hs : am_VS R_law idx ν) (hB : am_MB ν n) (hn : As.length = n) (hst : stA = As.reverse ++ .inr (.inr a) :: st) (hlen : am_sz (.inr (.inr a) :: As) ≤ ν.2.2.1) (hrest : am_sz st ≤ 8) (hdd : d' ≤ 100) (hc : a ∈ AL) (hly : am_ly a = (4, ci)) (hcl : am_cl[ci]? = some (ν.1.cls, T, nf))
    (hJ : jg d' ν AL 0 (am_args 0 (.inr (.inr a) :: As)) [] M N post2) (kk : ∀ v M' N', post2 v M' N' → jl L xs (pc + 3) lv (v.toList ++ st) M' N') : jl L xs pc lv stA M N := by
  intro D q cA p l e s m below meth c H locs ls hX ha hl
  obtain ⟨hx, hb, hml, hown, hts, hK, hsk, hXs, hbl, hret, hlk⟩ := id hX
  have hA : ∀ z, s.heap.size ≤ z → (fun z => s.heap.size ≤ z) z := fun z h => h
  have hM := j_met hB hlen hJ l D q cA H.size
  have hG := am_ws_good ν hB
  have hrm : (am_rm d').frames + 1 ≤ room_1.frames ∧ 8 + (ν.2.2.1 + 11) + (am_rm d').locals ≤ room_1.locals := by
    have h5 := hB.2.2.2.2
    show d' + 1 ≤ 2048 ∧ 8 + (ν.2.2.1 + 11) + 60 * d' ≤ 84000
    omega
  have hstk : (stA.map (am_v q)) = (As.map (am_v q)).reverse ++ .ref (q a) :: st.map (am_v q) := by rw [hst, List.map_append, List.map_reverse]; rfl
  have hroom : 2 * (F0 m pc ls (stA.map (am_v q))).monitorRoom + ((st.map (am_v q)).map fun v => v.category).sum ≤ 8 := lv_room (by rw [am_cats]; exact hrest)
  obtain ⟨k0, h0⟩ := List.getElem?_of_mem hc
  have he := am_w_at (q := q) (cA := cA) (M := M) (N := N) h0
  rw [am_e_o hly] at he
  have hpre := am_pre (As := .inr (.inr a) :: As) hK hsk ha hA
  have run : va_Run p l e room_1 s m #[Value.ref (q (8, 0, 0))] below meth c H locs 122 lwS 0 0 (F0 m pc ls (stA.map (am_v q))) (st.map (am_v q)) (am_Qc D q cA AL (am_w q cA AL M N) H.size post2 (Value.ref (q a) :: As.map (am_v q)).toArray) (va_A (am_w q cA AL M N) H.size) := by
    rcases hs.1 with h | ⟨host, h⟩
    · exact va_runV (C := ν.1.cls) ⟨hx, hb, hml, hown, hts⟩ hM ⟨callB_of n hts hG rfl rfl rfl (hts _ hB.2.2.1) (hts _ h) hB.2.2.2.1 hrm, hts _ hs.2.1, hts _ hs.2.2⟩ ⟨hpre.1, va_recv hK ha.1 hcl he, hpre.2⟩ rfl (by rw [List.length_map]; exact hn) hl.1 hstk hroom hd ⟨by decide, by decide⟩
    · exact va_runVN (C := ν.1.cls) ⟨hx, hb, hml, hown, hts⟩ hM ⟨va_cnB n hts hG rfl rfl rfl (hsk.2.2.2.2.2 _ h) (hts _ hB.2.2.1) hB.2.2.2.1 hrm, hts _ hs.2.1, hts _ hs.2.2⟩ ⟨hpre.1, va_recv hK ha.1 hcl he, hpre.2⟩ rfl (by rw [List.length_map]; exact hn) hl.1 hstk hroom hd ⟨by decide, by decide⟩
  refine am_call run ha hA (fun v M' N' H1 locs1 hp ha1 => ?_)
  have := kk v M' N' hp D q cA p l e s m below meth c H1 locs1 ls hX ha1 hl
  cases v with
  | none => exact this
  | some v => exact this
end JL
