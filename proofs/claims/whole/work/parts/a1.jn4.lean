/-! ===== jn: a call of a method that makes nothing, over some of the cells ===== -/
section J4
variable {d d' nc ns : Nat} {μ ν : am_Y} {dm dm' dm2 : List am_C} {U U2 : List (am_C × Nat)} {pc : Nat} {lv : List (Nat × am_V)} {st : List am_V} {M M' : am_I} {N N' : am_N} {post post2 : am_I → am_N → Prop} {q q' : am_C → Nat} {cA : Nat → ClassId}
/-- a cell whose references are all set -/
def fulC (U : List (am_C × Nat)) (c : am_C) : Prop := (am_ly c).1 ≤ 4 ∧ ((am_ly c).1 = 4 → ∀ j t, (am_ft (am_ly c).2)[j]? = some t → t ≠ 0 → t ≠ 1 → (c, j) ∈ U)
theorem fs_am {c : am_C} {ts : List Nat} (h : ∀ j t, ts[j]? = some t → t ≠ 0 → t ≠ 1 → (c, j) ∈ U) : fsU q U M N c ts = am_fs q M N c ts := by
  unfold fsU am_fs
  refine List.map_congr_left fun j hj => ?_
  have hl : j < ts.length := List.mem_range.mp hj
  have ht : ts[j]? = some (ts.getD j 0) := by
    rw [List.getD_eq_getElem?_getD, List.getElem?_eq_getElem hl]; rfl
  generalize ts.getD j 0 = t at ht
  rcases t with _ | _ | t
  · rfl
  · rfl
  · show (if (c, j) ∈ U then Value.ref (q (am_pt c j)) else .null) = Value.ref (q (am_pt c j))
    rw [if_pos (h j _ ht (by omega) (by omega))]
theorem eU_am {c : am_C} (h : fulC U c) : eU q cA U M N c = am_e q cA M N c := by
  obtain ⟨h1, h2⟩ := h
  cases hly : am_ly c with
  | mk kd n =>
    rw [hly] at h1 h2
    have h1' : kd ≤ 4 := h1
    have : kd = 0 ∨ kd = 1 ∨ kd = 2 ∨ kd = 3 ∨ kd = 4 := by omega
    rcases this with e | e | e | e | e <;> subst e
    · rw [am_e_i hly]; unfold eU; rw [hly]; rfl
    · rw [am_e_l hly]; unfold eU; rw [hly]; rfl
    · rw [am_e_b hly]; unfold eU; rw [hly]; rfl
    · rw [am_e_z hly]; unfold eU; rw [hly]; rfl
    · rw [am_e_o hly, eU_o hly, fs_am (h2 rfl)]
theorem wQ_am (h : ∀ c ∈ dm, fulC U c) : wQ q cA U dm M N = am_w q cA dm M N := by
  unfold wQ am_w
  exact List.map_congr_left fun c hc => by rw [eU_am (h c hc)]
theorem am_w_mem {k : Nat} {x : Nat × va_E} (h : (am_w q cA dm M N)[k]? = some x) : ∃ c, dm[k]? = some c ∧ x = (q c, am_e q cA M N c) := by
  unfold am_w at h
  rw [List.getElem?_map] at h
  cases hc : dm[k]? with
  | none => rw [hc] at h; exact absurd h (by simp)
  | some c => rw [hc] at h; exact ⟨c, rfl, (Option.some.inj h).symm⟩
theorem wQ_mem {k : Nat} {x : Nat × va_E} (h : (wQ q cA U dm M N)[k]? = some x) : ∃ c, dm[k]? = some c ∧ x = (q c, eU q cA U M N c) := by
  unfold wQ at h
  rw [List.getElem?_map] at h
  cases hc : dm[k]? with
  | none => rw [hc] at h; exact absurd h (by simp)
  | some c => rw [hc] at h; exact ⟨c, rfl, (Option.some.inj h).symm⟩
set_option maxHeartbeats 1000000 in
theorem n_sub {idx n ci nf : Nat} {a : am_C} {T : u_T} {As stA : List am_V} (hd : decode μ.2.1 pc = .ok (.invokevirtual idx, 3)) (hs : am_VS μ.1.cls idx ν) (hB : am_MB ν n) (hn : As.length = n) (hst : stA = As.reverse ++ .inr (.inr a) :: st) (hlen : am_sz (.inr (.inr a) :: As) ≤ ν.2.2.1) (hrest : am_sz st ≤ 8) (hdd : d' < d) (hc : a ∈ dm') (hly : am_ly a = (4, ci)) (hcl : am_cl[ci]? = some (ν.1.cls, T, nf)) (hsub : ∀ c ∈ dm', c ∈ dm) (hnd : dm'.Nodup) (hU : ∀ c ∈ dm', fulC U c)
    (hJ : jg d' ν dm' 0 (am_args 0 (.inr (.inr a) :: As)) [] M N (am_pv post2)) (hfr : ∀ M' N', post2 M' N' → ∀ c ∈ dm, c ∉ dm' → M' c = M c ∧ N' c = N c)
    (kk : ∀ M' N', post2 M' N' → jn d μ nc ns dm U (pc + 3) lv st M' N' dm2 U2 post) : jn d μ nc ns dm U pc lv stA M N dm2 U2 post := by
  intro D q cA A p l e R s m args below meth c Q H locs cells slots ls hX hi hr ha hl
  have hX0 := hX
  obtain ⟨hx, hb, hml, hown, hts, hK, hA, hf, hlo, hce, hslo, hsk⟩ := hX
  have hM := j_met hB hlen hJ l D q cA H.size
  have hG := am_ws_good ν hB
  have hrm : (am_rm d').frames + 1 ≤ R.frames ∧ 8 + (ν.2.2.1 + 11) + (am_rm d').locals ≤ R.locals := by
    have h5 := hB.2.2.2.2
    show d' + 1 ≤ R.frames ∧ 8 + (ν.2.2.1 + 11) + 60 * d' ≤ R.locals
    omega
  have hstk : (stA.map (am_v q)) = (As.map (am_v q)).reverse ++ .ref (q a) :: st.map (am_v q) := by rw [hst, List.map_append, List.map_reverse]; rfl
  have hroom : 2 * (F0 m pc ls (stA.map (am_v q))).monitorRoom + ((st.map (am_v q)).map fun v => v.category).sum ≤ 8 := lv_room (by rw [am_cats]; exact hrest)
  obtain ⟨hP, hD, hS⟩ := ha
  -- the part
  have inj : ∀ x ∈ dm, ∀ y ∈ dm, q x = q y → x = y := fun x hx y hy exy => by
    obtain ⟨i, h1⟩ := List.getElem?_of_mem hx
    obtain ⟨j, h2⟩ := List.getElem?_of_mem hy
    have := hD.1 i j _ _ (wQ_at h1) (wQ_at h2) exy
    subst this
    rw [h1] at h2
    exact Option.some.inj h2
  have hP' : va_P D am_cl (am_w q cA dm' M N) H := fun k x hx => by
    obtain ⟨c', h1, h2⟩ := am_w_mem hx
    have hm := List.mem_of_getElem? h1
    obtain ⟨i, h3⟩ := List.getElem?_of_mem (hsub c' hm)
    have := hP i _ (wQ_at h3)
    rw [eU_am (hU c' hm)] at this
    rw [h2]; exact this
  have hD' : va_D A (am_w q cA dm' M N) := by
    refine ⟨fun i j x y hx hy exy => ?_, fun k x hx => ?_⟩
    · obtain ⟨c1, h1, h2⟩ := am_w_mem hx
      obtain ⟨c2, h3, h4⟩ := am_w_mem hy
      rw [h2, h4] at exy
      have ec := inj c1 (hsub _ (List.mem_of_getElem? h1)) c2 (hsub _ (List.mem_of_getElem? h3)) exy
      subst ec
      have l1 := (List.getElem?_eq_some_iff.mp h1).1
      exact (List.getElem?_inj l1 hnd).mp (h1.trans h3.symm)
    · obtain ⟨c1, h1, h2⟩ := am_w_mem hx
      obtain ⟨i, h3⟩ := List.getElem?_of_mem (hsub c1 (List.mem_of_getElem? h1))
      have := hD.2 i _ (wQ_at h3)
      rw [h2]; exact this
  have ha' : am_at D q cA A dm' M N s H locs := ⟨hP', hD', hS⟩
  have hsubA := am_sub hD' hS hA
  obtain ⟨k0, h0⟩ := List.getElem?_of_mem hc
  have he := am_w_at (q := q) (cA := cA) (M := M) (N := N) h0
  rw [am_e_o hly] at he
  have hpre := am_pre (As := .inr (.inr a) :: As) hK hsk ha' hA
  have run : va_Run p l e R s m args below meth c H locs cells slots 0 0 (F0 m pc ls (stA.map (am_v q))) (st.map (am_v q)) (am_Qc D q cA dm' (am_w q cA dm' M N) H.size (am_pv post2) (Value.ref (q a) :: As.map (am_v q)).toArray) (va_A (am_w q cA dm' M N) H.size) := by
    rcases hs.1 with h | ⟨host, h⟩
    · exact va_runV (C := ν.1.cls) ⟨hx, hb, hml, hown, hts⟩ hM ⟨callB_of n hts hG rfl rfl rfl (hts _ hB.2.2.1) (hts _ h) hB.2.2.2.1 hrm, hts _ hs.2.1, hts _ hs.2.2⟩ ⟨hpre.1, va_recv hK hP' hcl he, hpre.2⟩ rfl (by rw [List.length_map]; exact hn) hl.1 hstk hroom hd ⟨by omega, by omega⟩
    · exact va_runVN (C := ν.1.cls) ⟨hx, hb, hml, hown, hts⟩ hM ⟨va_cnB n hts hG rfl rfl rfl (hsk.2.2.2.2.2 _ h) (hts _ hB.2.2.1) hB.2.2.2.1 hrm, hts _ hs.2.1, hts _ hs.2.2⟩ ⟨hpre.1, va_recv hK hP' hcl he, hpre.2⟩ rfl (by rw [List.length_map]; exact hn) hl.1 hstk hroom hd ⟨by omega, by omega⟩
  intro T0 hT X
  obtain ⟨v, st₀, t, T', Lc, h00, X', hLc, e1, e2, ⟨⟨v', M', N', hv, hp, hP1, hD1⟩, hz, hk⟩, stp⟩ := run T0 hT X
  obtain ⟨hv0, hp2⟩ := hp
  subst hv0
  cases hv
  rw [h00] at hz hk
  have hPn : va_P D am_cl (wQ q cA U dm M' N') T'.heap := fun k x hx => by
    obtain ⟨c', h1, h2⟩ := wQ_mem hx
    have hm := List.mem_of_getElem? h1
    rw [h2, e1]
    by_cases hin : c' ∈ dm'
    · obtain ⟨i, h3⟩ := List.getElem?_of_mem hin
      rw [eU_am (hU c' hin)]
      exact hP1 i _ (am_w_at h3)
    · obtain ⟨g1, g2⟩ := hfr M' N' hp2 c' hm hin
      rw [eU_congr (q' := q) (U' := U) g1 g2 (fun _ => Iff.rfl) (fun _ _ => rfl)]
      have hold := hP k _ (wQ_at h1)
      refine hold.kept (hk _ hold.lt (fun w => ?_))
      rcases w with ⟨k2, e3, w⟩ | w
      · obtain ⟨c2, h3, h4⟩ := am_w_mem w
        have : q c' = q c2 := congrArg Prod.fst h4
        have hm2 := List.mem_of_getElem? h3
        have := inj c' hm c2 (hsub _ hm2) this
        rw [this] at hin
        exact hin hm2
      · have := hold.lt
        exact absurd w (Nat.not_le.mpr this)
  have hDn : va_D A (wQ q cA U dm M' N') := by
    refine ⟨fun i j x y hx hy exy => ?_, fun k x hx => ?_⟩
    · obtain ⟨c1, h1, h2⟩ := wQ_mem hx
      obtain ⟨c2, h3, h4⟩ := wQ_mem hy
      rw [h2, h4] at exy
      exact hD.1 i j _ _ (wQ_at h1) (wQ_at h3) exy
    · obtain ⟨c1, h1, h2⟩ := wQ_mem hx
      have h9 := hD.2 k (q c1, eU q cA U M N c1) (wQ_at h1)
      rw [h2]
      exact h9
  have K := kk M' N' hp2 D q cA A p l e R s m args below meth c Q T'.heap (locs ++ Lc) cells slots ls hX0 hi hr
    ⟨hPn, hDn, ⟨Nat.le_trans hS.1 (by rw [e1]; exact hz), fun z h1 h2 => by rw [e1, hk z (Nat.lt_of_lt_of_le h1 hS.1) (fun w => h2 (hsubA z w))]; exact hS.2.1 z h1 h2, fun z hz2 => by
      rcases List.mem_append.mp hz2 with h | h
      · exact hS.2.2 z h
      · exact hsubA _ (hLc z h)⟩⟩ hl
  obtain ⟨t2, a1, b1⟩ := K T' rfl X'
  exact ⟨t2, stp t2 a1, b1⟩
end J4
