/-! ===== the book with a new entry ===== -/
section BN
variable {M M7 : am_I} {bk : Bk} {cn : Cn} {v : Nat → Nat} {vals : Nat → Int32}
theorem BkC.addr (K : BkC M bk cn cn) (hc : (cn.r + 1) * 3 ≤ am_cap 1) (hn : cn.r + 1 < 2 ^ 31) (hv : ∀ j, j < 3 → vals (0 + j) = nI (v (0 + j))) : BkC (addM M 1 3 cn.r vals) (bkSet bk 0 2 cn.r v) (cnAdd cn 2) (cnAdd cn 2) := by
  have eo : ∀ s i, s ≠ 1 → addM M 1 3 cn.r vals (2, s, i) = M (2, s, i) := fun s i hs => addM_o (fun e => by simp only [Prod.mk.injEq] at e; omega) (fun e => by simp only [Prod.mk.injEq] at e; omega)
  refine ⟨CnLe.rf, addM_ok K.t1 hc hn, K.t2.cg (eo 2 0 (by omega)), K.t3.cg (eo 3 0 (by omega)), K.t4.cg (eo 4 0 (by omega)), K.t5.cg (eo 5 0 (by omega)), fun i hi => ?_, fun i hi => ?_, fun i hi => ?_, fun i hi => ?_, fun i hi => ?_⟩
  · by_cases e : i = cn.r
    · subst e
      rw [addM_new (by omega), addM_new (by omega), addM_new (by omega)]
      exact ⟨(hv 0 (by omega)).trans (congrArg nI (bkSet_in (t := 0) (by omega) (by omega)).symm), (hv 1 (by omega)).trans (congrArg nI (bkSet_in (t := 1) (by omega) (by omega)).symm), (hv 2 (by omega)).trans (congrArg nI (bkSet_in (t := 2) (by omega) (by omega)).symm)⟩
    · have hi' : i < cn.r := by
        have : (cnAdd cn 2).r = cn.r + 1 := rfl
        omega
      have h := K.r i hi'
      rw [addM_oldR hi' (by omega), addM_oldR hi' (by omega), addM_oldR hi' (by omega)]
      exact ⟨h.1.trans (congrArg nI (bkSet_o (t := 0) (Or.inr (Or.inr e))).symm), h.2.1.trans (congrArg nI (bkSet_o (t := 1) (Or.inr (Or.inr e))).symm), h.2.2.trans (congrArg nI (bkSet_o (t := 2) (Or.inr (Or.inr e))).symm)⟩
  · have h := K.c i hi
    rw [eo 2 1 (by omega)]
    exact ⟨h.1.trans (congrArg nI (bkSet_o (t := 3) (Or.inr (Or.inl (by omega)))).symm), h.2.1.trans (congrArg nI (bkSet_o (t := 4) (Or.inr (Or.inl (by omega)))).symm), h.2.2.1.trans (congrArg nI (bkSet_o (t := 5) (Or.inr (Or.inl (by omega)))).symm), h.2.2.2.1.trans (congrArg nI (bkSet_o (t := 6) (Or.inr (Or.inl (by omega)))).symm), h.2.2.2.2.trans (congrArg nI (bkSet_o (t := 7) (Or.inr (Or.inl (by omega)))).symm)⟩
  · have h := K.w i hi
    rw [eo 3 1 (by omega)]
    exact ⟨h.1.trans (congrArg nI (bkSet_o (t := 8) (Or.inr (Or.inl (by omega)))).symm), h.2.1.trans (congrArg nI (bkSet_o (t := 9) (Or.inr (Or.inl (by omega)))).symm), h.2.2.trans (congrArg nI (bkSet_o (t := 10) (Or.inr (Or.inl (by omega)))).symm)⟩
  · have h := K.l i hi
    rw [eo 5 1 (by omega)]
    exact h.trans (congrArg nI (bkSet_o (t := 11) (Or.inr (Or.inl (by omega)))).symm)
  · have h := K.k i hi
    rw [eo 4 1 (by omega)]
    have e : ∀ t, 12 ≤ t → bkSet bk 0 2 cn.r v t i = bk t i := fun t ht => bkSet_o (Or.inr (Or.inl (by omega)))
    exact ⟨h.1.trans (congrArg nI (e 12 (by omega)).symm), fun m hm => (h.2 m hm).trans (congrArg nI (e (13 + m) (by omega)).symm)⟩
theorem BkM.addr (K : BkM M bk cn) (eo : ∀ i, 8 ≤ i → i ≤ 21 → i ≠ 8 → i ≠ 9 → i ≠ 10 → M7 (3, 0, i) = M (3, 0, i)) (e0 : M7 (3, 0, 8) = upd (M (3, 0, 8)) cn.r (nI (v 0))) (e1 : M7 (3, 0, 9) = upd (M (3, 0, 9)) cn.r (nI (v 1))) (e2 : M7 (3, 0, 10) = upd (M (3, 0, 10)) cn.r (nI (v 2))) : BkM M7 (bkSet bk 0 2 cn.r v) (cnAdd cn 2) := by
  refine ⟨fun i hi => ?_, fun i hi => ?_, fun i hi => ?_, fun i hi => ?_, fun i hi => ?_⟩
  · by_cases e : i = cn.r
    · subst e
      rw [e0, e1, e2, pk_us, pk_us, pk_us]
      exact ⟨congrArg nI (bkSet_in (t := 0) (by omega) (by omega)).symm, congrArg nI (bkSet_in (t := 1) (by omega) (by omega)).symm, congrArg nI (bkSet_in (t := 2) (by omega) (by omega)).symm⟩
    · have hi' : i < cn.r := by
        have : (cnAdd cn 2).r = cn.r + 1 := rfl
        omega
      have h := K.r i hi'
      rw [e0, e1, e2, pk_un e, pk_un e, pk_un e]
      exact ⟨h.1.trans (congrArg nI (bkSet_o (t := 0) (Or.inr (Or.inr e))).symm), h.2.1.trans (congrArg nI (bkSet_o (t := 1) (Or.inr (Or.inr e))).symm), h.2.2.trans (congrArg nI (bkSet_o (t := 2) (Or.inr (Or.inr e))).symm)⟩
  · have h := K.c i hi
    rw [eo 11 (by omega) (by omega) (by omega) (by omega) (by omega), eo 12 (by omega) (by omega) (by omega) (by omega) (by omega), eo 13 (by omega) (by omega) (by omega) (by omega) (by omega), eo 14 (by omega) (by omega) (by omega) (by omega) (by omega), eo 15 (by omega) (by omega) (by omega) (by omega) (by omega)]
    exact ⟨h.1.trans (congrArg nI (bkSet_o (t := 3) (Or.inr (Or.inl (by omega)))).symm), h.2.1.trans (congrArg nI (bkSet_o (t := 4) (Or.inr (Or.inl (by omega)))).symm), h.2.2.1.trans (congrArg nI (bkSet_o (t := 5) (Or.inr (Or.inl (by omega)))).symm), h.2.2.2.1.trans (congrArg nI (bkSet_o (t := 6) (Or.inr (Or.inl (by omega)))).symm), h.2.2.2.2.trans (congrArg nI (bkSet_o (t := 7) (Or.inr (Or.inl (by omega)))).symm)⟩
  · have h := K.w i hi
    rw [eo 16 (by omega) (by omega) (by omega) (by omega) (by omega), eo 17 (by omega) (by omega) (by omega) (by omega) (by omega), eo 18 (by omega) (by omega) (by omega) (by omega) (by omega)]
    exact ⟨h.1.trans (congrArg nI (bkSet_o (t := 8) (Or.inr (Or.inl (by omega)))).symm), h.2.1.trans (congrArg nI (bkSet_o (t := 9) (Or.inr (Or.inl (by omega)))).symm), h.2.2.trans (congrArg nI (bkSet_o (t := 10) (Or.inr (Or.inl (by omega)))).symm)⟩
  · have h := K.l i hi
    rw [eo 19 (by omega) (by omega) (by omega) (by omega) (by omega)]
    exact h.trans (congrArg nI (bkSet_o (t := 11) (Or.inr (Or.inl (by omega)))).symm)
  · have h := K.k i hi
    rw [eo 20 (by omega) (by omega) (by omega) (by omega) (by omega), eo 21 (by omega) (by omega) (by omega) (by omega) (by omega)]
    have e : ∀ t, 12 ≤ t → bkSet bk 0 2 cn.r v t i = bk t i := fun t ht => bkSet_o (Or.inr (Or.inl (by omega)))
    exact ⟨h.1.trans (congrArg nI (e 12 (by omega)).symm), fun m hm => (h.2 m hm).trans (congrArg nI (e (13 + m) (by omega)).symm)⟩
theorem BkGood.addr (K : BkGood bk cn) (hv : v 0 < 2 ^ 31 ∧ v 1 < 2 ^ 31 ∧ 1 ≤ v 2 ∧ v 2 ≤ 99) : BkGood (bkSet bk 0 2 cn.r v) (cnAdd cn 2) := by
  refine ⟨fun i hi => ?_, fun i hi => ?_, fun i hi => ?_, fun i hi => ?_, fun i hi => ?_⟩
  · by_cases e : i = cn.r
    · subst e
      unfold Bk.rF Bk.rT Bk.rM
      rw [bkSet_in (t := 0) (by omega) (by omega), bkSet_in (t := 1) (by omega) (by omega), bkSet_in (t := 2) (by omega) (by omega)]
      exact hv
    · have hi' : i < cn.r := by
        have : (cnAdd cn 2).r = cn.r + 1 := rfl
        omega
      have h := K.rM i hi'
      unfold Bk.rF Bk.rT Bk.rM at h ⊢
      rw [bkSet_o (t := 0) (Or.inr (Or.inr e)), bkSet_o (t := 1) (Or.inr (Or.inr e)), bkSet_o (t := 2) (Or.inr (Or.inr e))]
      exact h
  · have h := K.c i hi
    unfold Bk.cK Bk.cW Bk.cS Bk.cH Bk.cU at h ⊢
    rw [bkSet_o (t := 3) (Or.inr (Or.inl (by omega))), bkSet_o (t := 4) (Or.inr (Or.inl (by omega))), bkSet_o (t := 5) (Or.inr (Or.inl (by omega))), bkSet_o (t := 6) (Or.inr (Or.inl (by omega))), bkSet_o (t := 7) (Or.inr (Or.inl (by omega)))]
    exact h
  · have h := K.w i hi
    unfold Bk.wK Bk.wC Bk.wM at h ⊢
    rw [bkSet_o (t := 8) (Or.inr (Or.inl (by omega))), bkSet_o (t := 9) (Or.inr (Or.inl (by omega))), bkSet_o (t := 10) (Or.inr (Or.inl (by omega)))]
    exact h
  · have h := K.l i hi
    unfold Bk.lo at h ⊢
    rw [bkSet_o (t := 11) (Or.inr (Or.inl (by omega)))]
    exact h
  · have h := K.k i hi
    have e : ∀ t, 12 ≤ t → bkSet bk 0 2 cn.r v t i = bk t i := fun t ht => bkSet_o (Or.inr (Or.inl (by omega)))
    unfold Bk.pr Bk.od at h ⊢
    rw [e 12 (by omega)]
    exact ⟨h.1, fun m hm => by rw [e (13 + m) (by omega)]; exact h.2 m hm⟩
theorem BkC.addc (K : BkC M bk cn cn) (hc : (cn.c + 1) * 5 ≤ am_cap 2) (hn : cn.c + 1 < 2 ^ 31) (hv : ∀ j, j < 5 → vals (0 + j) = nI (v (3 + j))) : BkC (addM M 2 5 cn.c vals) (bkSet bk 3 7 cn.c v) (cnAdd cn 3) (cnAdd cn 3) := by
  have eo : ∀ s i, s ≠ 2 → addM M 2 5 cn.c vals (2, s, i) = M (2, s, i) := fun s i hs => addM_o (fun e => by simp only [Prod.mk.injEq] at e; omega) (fun e => by simp only [Prod.mk.injEq] at e; omega)
  refine ⟨CnLe.rf, K.t1.cg (eo 1 0 (by omega)), addM_ok K.t2 hc hn, K.t3.cg (eo 3 0 (by omega)), K.t4.cg (eo 4 0 (by omega)), K.t5.cg (eo 5 0 (by omega)), fun i hi => ?_, fun i hi => ?_, fun i hi => ?_, fun i hi => ?_, fun i hi => ?_⟩
  · have h := K.r i hi
    rw [eo 1 1 (by omega)]
    exact ⟨h.1.trans (congrArg nI (bkSet_o (t := 0) (Or.inl (by omega))).symm), h.2.1.trans (congrArg nI (bkSet_o (t := 1) (Or.inl (by omega))).symm), h.2.2.trans (congrArg nI (bkSet_o (t := 2) (Or.inl (by omega))).symm)⟩
  · by_cases e : i = cn.c
    · subst e
      rw [addM_new (by omega), addM_new (by omega), addM_new (by omega), addM_new (by omega), addM_new (by omega)]
      exact ⟨(hv 0 (by omega)).trans (congrArg nI (bkSet_in (t := 3) (by omega) (by omega)).symm), (hv 1 (by omega)).trans (congrArg nI (bkSet_in (t := 4) (by omega) (by omega)).symm), (hv 2 (by omega)).trans (congrArg nI (bkSet_in (t := 5) (by omega) (by omega)).symm), (hv 3 (by omega)).trans (congrArg nI (bkSet_in (t := 6) (by omega) (by omega)).symm), (hv 4 (by omega)).trans (congrArg nI (bkSet_in (t := 7) (by omega) (by omega)).symm)⟩
    · have hi' : i < cn.c := by
        have : (cnAdd cn 3).c = cn.c + 1 := rfl
        omega
      have h := K.c i hi'
      rw [addM_oldR hi' (by omega), addM_oldR hi' (by omega), addM_oldR hi' (by omega), addM_oldR hi' (by omega), addM_oldR hi' (by omega)]
      exact ⟨h.1.trans (congrArg nI (bkSet_o (t := 3) (Or.inr (Or.inr e))).symm), h.2.1.trans (congrArg nI (bkSet_o (t := 4) (Or.inr (Or.inr e))).symm), h.2.2.1.trans (congrArg nI (bkSet_o (t := 5) (Or.inr (Or.inr e))).symm), h.2.2.2.1.trans (congrArg nI (bkSet_o (t := 6) (Or.inr (Or.inr e))).symm), h.2.2.2.2.trans (congrArg nI (bkSet_o (t := 7) (Or.inr (Or.inr e))).symm)⟩
  · have h := K.w i hi
    rw [eo 3 1 (by omega)]
    exact ⟨h.1.trans (congrArg nI (bkSet_o (t := 8) (Or.inr (Or.inl (by omega)))).symm), h.2.1.trans (congrArg nI (bkSet_o (t := 9) (Or.inr (Or.inl (by omega)))).symm), h.2.2.trans (congrArg nI (bkSet_o (t := 10) (Or.inr (Or.inl (by omega)))).symm)⟩
  · have h := K.l i hi
    rw [eo 5 1 (by omega)]
    exact h.trans (congrArg nI (bkSet_o (t := 11) (Or.inr (Or.inl (by omega)))).symm)
  · have h := K.k i hi
    rw [eo 4 1 (by omega)]
    have e : ∀ t, 12 ≤ t → bkSet bk 3 7 cn.c v t i = bk t i := fun t ht => bkSet_o (Or.inr (Or.inl (by omega)))
    exact ⟨h.1.trans (congrArg nI (e 12 (by omega)).symm), fun m hm => (h.2 m hm).trans (congrArg nI (e (13 + m) (by omega)).symm)⟩
theorem BkM.addc (K : BkM M bk cn) (eo : ∀ i, 8 ≤ i → i ≤ 21 → i ≠ 11 → i ≠ 12 → i ≠ 13 → i ≠ 14 → i ≠ 15 → M7 (3, 0, i) = M (3, 0, i)) (e0 : M7 (3, 0, 11) = upd (M (3, 0, 11)) cn.c (nI (v 3))) (e1 : M7 (3, 0, 12) = upd (M (3, 0, 12)) cn.c (nI (v 4))) (e2 : M7 (3, 0, 13) = upd (M (3, 0, 13)) cn.c (nI (v 5))) (e3 : M7 (3, 0, 14) = upd (M (3, 0, 14)) cn.c (nI (v 6))) (e4 : M7 (3, 0, 15) = upd (M (3, 0, 15)) cn.c (nI (v 7))) : BkM M7 (bkSet bk 3 7 cn.c v) (cnAdd cn 3) := by
  refine ⟨fun i hi => ?_, fun i hi => ?_, fun i hi => ?_, fun i hi => ?_, fun i hi => ?_⟩
  · have h := K.r i hi
    rw [eo 8 (by omega) (by omega) (by omega) (by omega) (by omega) (by omega) (by omega), eo 9 (by omega) (by omega) (by omega) (by omega) (by omega) (by omega) (by omega), eo 10 (by omega) (by omega) (by omega) (by omega) (by omega) (by omega) (by omega)]
    exact ⟨h.1.trans (congrArg nI (bkSet_o (t := 0) (Or.inl (by omega))).symm), h.2.1.trans (congrArg nI (bkSet_o (t := 1) (Or.inl (by omega))).symm), h.2.2.trans (congrArg nI (bkSet_o (t := 2) (Or.inl (by omega))).symm)⟩
  · by_cases e : i = cn.c
    · subst e
      rw [e0, e1, e2, e3, e4, pk_us, pk_us, pk_us, pk_us, pk_us]
      exact ⟨congrArg nI (bkSet_in (t := 3) (by omega) (by omega)).symm, congrArg nI (bkSet_in (t := 4) (by omega) (by omega)).symm, congrArg nI (bkSet_in (t := 5) (by omega) (by omega)).symm, congrArg nI (bkSet_in (t := 6) (by omega) (by omega)).symm, congrArg nI (bkSet_in (t := 7) (by omega) (by omega)).symm⟩
    · have hi' : i < cn.c := by
        have : (cnAdd cn 3).c = cn.c + 1 := rfl
        omega
      have h := K.c i hi'
      rw [e0, e1, e2, e3, e4, pk_un e, pk_un e, pk_un e, pk_un e, pk_un e]
      exact ⟨h.1.trans (congrArg nI (bkSet_o (t := 3) (Or.inr (Or.inr e))).symm), h.2.1.trans (congrArg nI (bkSet_o (t := 4) (Or.inr (Or.inr e))).symm), h.2.2.1.trans (congrArg nI (bkSet_o (t := 5) (Or.inr (Or.inr e))).symm), h.2.2.2.1.trans (congrArg nI (bkSet_o (t := 6) (Or.inr (Or.inr e))).symm), h.2.2.2.2.trans (congrArg nI (bkSet_o (t := 7) (Or.inr (Or.inr e))).symm)⟩
  · have h := K.w i hi
    rw [eo 16 (by omega) (by omega) (by omega) (by omega) (by omega) (by omega) (by omega), eo 17 (by omega) (by omega) (by omega) (by omega) (by omega) (by omega) (by omega), eo 18 (by omega) (by omega) (by omega) (by omega) (by omega) (by omega) (by omega)]
    exact ⟨h.1.trans (congrArg nI (bkSet_o (t := 8) (Or.inr (Or.inl (by omega)))).symm), h.2.1.trans (congrArg nI (bkSet_o (t := 9) (Or.inr (Or.inl (by omega)))).symm), h.2.2.trans (congrArg nI (bkSet_o (t := 10) (Or.inr (Or.inl (by omega)))).symm)⟩
  · have h := K.l i hi
    rw [eo 19 (by omega) (by omega) (by omega) (by omega) (by omega) (by omega) (by omega)]
    exact h.trans (congrArg nI (bkSet_o (t := 11) (Or.inr (Or.inl (by omega)))).symm)
  · have h := K.k i hi
    rw [eo 20 (by omega) (by omega) (by omega) (by omega) (by omega) (by omega) (by omega), eo 21 (by omega) (by omega) (by omega) (by omega) (by omega) (by omega) (by omega)]
    have e : ∀ t, 12 ≤ t → bkSet bk 3 7 cn.c v t i = bk t i := fun t ht => bkSet_o (Or.inr (Or.inl (by omega)))
    exact ⟨h.1.trans (congrArg nI (e 12 (by omega)).symm), fun m hm => (h.2 m hm).trans (congrArg nI (e (13 + m) (by omega)).symm)⟩
theorem BkGood.addc (K : BkGood bk cn) (hv : v 3 ≤ 3 ∧ 1 ≤ v 4 ∧ v 4 ≤ 50 ∧ v 5 ≤ 999 ∧ v 6 < 64 ∧ v 7 ≤ 500) : BkGood (bkSet bk 3 7 cn.c v) (cnAdd cn 3) := by
  refine ⟨fun i hi => ?_, fun i hi => ?_, fun i hi => ?_, fun i hi => ?_, fun i hi => ?_⟩
  · have h := K.rM i hi
    unfold Bk.rF Bk.rT Bk.rM at h ⊢
    rw [bkSet_o (t := 0) (Or.inl (by omega)), bkSet_o (t := 1) (Or.inl (by omega)), bkSet_o (t := 2) (Or.inl (by omega))]
    exact h
  · by_cases e : i = cn.c
    · subst e
      unfold Bk.cK Bk.cW Bk.cS Bk.cH Bk.cU
      rw [bkSet_in (t := 3) (by omega) (by omega), bkSet_in (t := 4) (by omega) (by omega), bkSet_in (t := 5) (by omega) (by omega), bkSet_in (t := 6) (by omega) (by omega), bkSet_in (t := 7) (by omega) (by omega)]
      exact hv
    · have hi' : i < cn.c := by
        have : (cnAdd cn 3).c = cn.c + 1 := rfl
        omega
      have h := K.c i hi'
      unfold Bk.cK Bk.cW Bk.cS Bk.cH Bk.cU at h ⊢
      rw [bkSet_o (t := 3) (Or.inr (Or.inr e)), bkSet_o (t := 4) (Or.inr (Or.inr e)), bkSet_o (t := 5) (Or.inr (Or.inr e)), bkSet_o (t := 6) (Or.inr (Or.inr e)), bkSet_o (t := 7) (Or.inr (Or.inr e))]
      exact h
  · have h := K.w i hi
    unfold Bk.wK Bk.wC Bk.wM at h ⊢
    rw [bkSet_o (t := 8) (Or.inr (Or.inl (by omega))), bkSet_o (t := 9) (Or.inr (Or.inl (by omega))), bkSet_o (t := 10) (Or.inr (Or.inl (by omega)))]
    exact h
  · have h := K.l i hi
    unfold Bk.lo at h ⊢
    rw [bkSet_o (t := 11) (Or.inr (Or.inl (by omega)))]
    exact h
  · have h := K.k i hi
    have e : ∀ t, 12 ≤ t → bkSet bk 3 7 cn.c v t i = bk t i := fun t ht => bkSet_o (Or.inr (Or.inl (by omega)))
    unfold Bk.pr Bk.od at h ⊢
    rw [e 12 (by omega)]
    exact ⟨h.1, fun m hm => by rw [e (13 + m) (by omega)]; exact h.2 m hm⟩
theorem BkC.addw (K : BkC M bk cn cn) (hc : (cn.w + 1) * 3 ≤ am_cap 3) (hn : cn.w + 1 < 2 ^ 31) (hv : ∀ j, j < 3 → vals (0 + j) = nI (v (8 + j))) : BkC (addM M 3 3 cn.w vals) (bkSet bk 8 10 cn.w v) (cnAdd cn 5) (cnAdd cn 5) := by
  have eo : ∀ s i, s ≠ 3 → addM M 3 3 cn.w vals (2, s, i) = M (2, s, i) := fun s i hs => addM_o (fun e => by simp only [Prod.mk.injEq] at e; omega) (fun e => by simp only [Prod.mk.injEq] at e; omega)
  refine ⟨CnLe.rf, K.t1.cg (eo 1 0 (by omega)), K.t2.cg (eo 2 0 (by omega)), addM_ok K.t3 hc hn, K.t4.cg (eo 4 0 (by omega)), K.t5.cg (eo 5 0 (by omega)), fun i hi => ?_, fun i hi => ?_, fun i hi => ?_, fun i hi => ?_, fun i hi => ?_⟩
  · have h := K.r i hi
    rw [eo 1 1 (by omega)]
    exact ⟨h.1.trans (congrArg nI (bkSet_o (t := 0) (Or.inl (by omega))).symm), h.2.1.trans (congrArg nI (bkSet_o (t := 1) (Or.inl (by omega))).symm), h.2.2.trans (congrArg nI (bkSet_o (t := 2) (Or.inl (by omega))).symm)⟩
  · have h := K.c i hi
    rw [eo 2 1 (by omega)]
    exact ⟨h.1.trans (congrArg nI (bkSet_o (t := 3) (Or.inl (by omega))).symm), h.2.1.trans (congrArg nI (bkSet_o (t := 4) (Or.inl (by omega))).symm), h.2.2.1.trans (congrArg nI (bkSet_o (t := 5) (Or.inl (by omega))).symm), h.2.2.2.1.trans (congrArg nI (bkSet_o (t := 6) (Or.inl (by omega))).symm), h.2.2.2.2.trans (congrArg nI (bkSet_o (t := 7) (Or.inl (by omega))).symm)⟩
  · by_cases e : i = cn.w
    · subst e
      rw [addM_new (by omega), addM_new (by omega), addM_new (by omega)]
      exact ⟨(hv 0 (by omega)).trans (congrArg nI (bkSet_in (t := 8) (by omega) (by omega)).symm), (hv 1 (by omega)).trans (congrArg nI (bkSet_in (t := 9) (by omega) (by omega)).symm), (hv 2 (by omega)).trans (congrArg nI (bkSet_in (t := 10) (by omega) (by omega)).symm)⟩
    · have hi' : i < cn.w := by
        have : (cnAdd cn 5).w = cn.w + 1 := rfl
        omega
      have h := K.w i hi'
      rw [addM_oldR hi' (by omega), addM_oldR hi' (by omega), addM_oldR hi' (by omega)]
      exact ⟨h.1.trans (congrArg nI (bkSet_o (t := 8) (Or.inr (Or.inr e))).symm), h.2.1.trans (congrArg nI (bkSet_o (t := 9) (Or.inr (Or.inr e))).symm), h.2.2.trans (congrArg nI (bkSet_o (t := 10) (Or.inr (Or.inr e))).symm)⟩
  · have h := K.l i hi
    rw [eo 5 1 (by omega)]
    exact h.trans (congrArg nI (bkSet_o (t := 11) (Or.inr (Or.inl (by omega)))).symm)
  · have h := K.k i hi
    rw [eo 4 1 (by omega)]
    have e : ∀ t, 12 ≤ t → bkSet bk 8 10 cn.w v t i = bk t i := fun t ht => bkSet_o (Or.inr (Or.inl (by omega)))
    exact ⟨h.1.trans (congrArg nI (e 12 (by omega)).symm), fun m hm => (h.2 m hm).trans (congrArg nI (e (13 + m) (by omega)).symm)⟩
theorem BkM.addw (K : BkM M bk cn) (eo : ∀ i, 8 ≤ i → i ≤ 21 → i ≠ 16 → i ≠ 17 → i ≠ 18 → M7 (3, 0, i) = M (3, 0, i)) (e0 : M7 (3, 0, 16) = upd (M (3, 0, 16)) cn.w (nI (v 8))) (e1 : M7 (3, 0, 17) = upd (M (3, 0, 17)) cn.w (nI (v 9))) (e2 : M7 (3, 0, 18) = upd (M (3, 0, 18)) cn.w (nI (v 10))) : BkM M7 (bkSet bk 8 10 cn.w v) (cnAdd cn 5) := by
  refine ⟨fun i hi => ?_, fun i hi => ?_, fun i hi => ?_, fun i hi => ?_, fun i hi => ?_⟩
  · have h := K.r i hi
    rw [eo 8 (by omega) (by omega) (by omega) (by omega) (by omega), eo 9 (by omega) (by omega) (by omega) (by omega) (by omega), eo 10 (by omega) (by omega) (by omega) (by omega) (by omega)]
    exact ⟨h.1.trans (congrArg nI (bkSet_o (t := 0) (Or.inl (by omega))).symm), h.2.1.trans (congrArg nI (bkSet_o (t := 1) (Or.inl (by omega))).symm), h.2.2.trans (congrArg nI (bkSet_o (t := 2) (Or.inl (by omega))).symm)⟩
  · have h := K.c i hi
    rw [eo 11 (by omega) (by omega) (by omega) (by omega) (by omega), eo 12 (by omega) (by omega) (by omega) (by omega) (by omega), eo 13 (by omega) (by omega) (by omega) (by omega) (by omega), eo 14 (by omega) (by omega) (by omega) (by omega) (by omega), eo 15 (by omega) (by omega) (by omega) (by omega) (by omega)]
    exact ⟨h.1.trans (congrArg nI (bkSet_o (t := 3) (Or.inl (by omega))).symm), h.2.1.trans (congrArg nI (bkSet_o (t := 4) (Or.inl (by omega))).symm), h.2.2.1.trans (congrArg nI (bkSet_o (t := 5) (Or.inl (by omega))).symm), h.2.2.2.1.trans (congrArg nI (bkSet_o (t := 6) (Or.inl (by omega))).symm), h.2.2.2.2.trans (congrArg nI (bkSet_o (t := 7) (Or.inl (by omega))).symm)⟩
  · by_cases e : i = cn.w
    · subst e
      rw [e0, e1, e2, pk_us, pk_us, pk_us]
      exact ⟨congrArg nI (bkSet_in (t := 8) (by omega) (by omega)).symm, congrArg nI (bkSet_in (t := 9) (by omega) (by omega)).symm, congrArg nI (bkSet_in (t := 10) (by omega) (by omega)).symm⟩
    · have hi' : i < cn.w := by
        have : (cnAdd cn 5).w = cn.w + 1 := rfl
        omega
      have h := K.w i hi'
      rw [e0, e1, e2, pk_un e, pk_un e, pk_un e]
      exact ⟨h.1.trans (congrArg nI (bkSet_o (t := 8) (Or.inr (Or.inr e))).symm), h.2.1.trans (congrArg nI (bkSet_o (t := 9) (Or.inr (Or.inr e))).symm), h.2.2.trans (congrArg nI (bkSet_o (t := 10) (Or.inr (Or.inr e))).symm)⟩
  · have h := K.l i hi
    rw [eo 19 (by omega) (by omega) (by omega) (by omega) (by omega)]
    exact h.trans (congrArg nI (bkSet_o (t := 11) (Or.inr (Or.inl (by omega)))).symm)
  · have h := K.k i hi
    rw [eo 20 (by omega) (by omega) (by omega) (by omega) (by omega), eo 21 (by omega) (by omega) (by omega) (by omega) (by omega)]
    have e : ∀ t, 12 ≤ t → bkSet bk 8 10 cn.w v t i = bk t i := fun t ht => bkSet_o (Or.inr (Or.inl (by omega)))
    exact ⟨h.1.trans (congrArg nI (e 12 (by omega)).symm), fun m hm => (h.2 m hm).trans (congrArg nI (e (13 + m) (by omega)).symm)⟩
theorem BkGood.addw (K : BkGood bk cn) (hv : v 8 ≤ 3 ∧ v 9 < 64 ∧ v 10 ≤ 999) : BkGood (bkSet bk 8 10 cn.w v) (cnAdd cn 5) := by
  refine ⟨fun i hi => ?_, fun i hi => ?_, fun i hi => ?_, fun i hi => ?_, fun i hi => ?_⟩
  · have h := K.rM i hi
    unfold Bk.rF Bk.rT Bk.rM at h ⊢
    rw [bkSet_o (t := 0) (Or.inl (by omega)), bkSet_o (t := 1) (Or.inl (by omega)), bkSet_o (t := 2) (Or.inl (by omega))]
    exact h
  · have h := K.c i hi
    unfold Bk.cK Bk.cW Bk.cS Bk.cH Bk.cU at h ⊢
    rw [bkSet_o (t := 3) (Or.inl (by omega)), bkSet_o (t := 4) (Or.inl (by omega)), bkSet_o (t := 5) (Or.inl (by omega)), bkSet_o (t := 6) (Or.inl (by omega)), bkSet_o (t := 7) (Or.inl (by omega))]
    exact h
  · by_cases e : i = cn.w
    · subst e
      unfold Bk.wK Bk.wC Bk.wM
      rw [bkSet_in (t := 8) (by omega) (by omega), bkSet_in (t := 9) (by omega) (by omega), bkSet_in (t := 10) (by omega) (by omega)]
      exact hv
    · have hi' : i < cn.w := by
        have : (cnAdd cn 5).w = cn.w + 1 := rfl
        omega
      have h := K.w i hi'
      unfold Bk.wK Bk.wC Bk.wM at h ⊢
      rw [bkSet_o (t := 8) (Or.inr (Or.inr e)), bkSet_o (t := 9) (Or.inr (Or.inr e)), bkSet_o (t := 10) (Or.inr (Or.inr e))]
      exact h
  · have h := K.l i hi
    unfold Bk.lo at h ⊢
    rw [bkSet_o (t := 11) (Or.inr (Or.inl (by omega)))]
    exact h
  · have h := K.k i hi
    have e : ∀ t, 12 ≤ t → bkSet bk 8 10 cn.w v t i = bk t i := fun t ht => bkSet_o (Or.inr (Or.inl (by omega)))
    unfold Bk.pr Bk.od at h ⊢
    rw [e 12 (by omega)]
    exact ⟨h.1, fun m hm => by rw [e (13 + m) (by omega)]; exact h.2 m hm⟩
theorem BkC.addl (K : BkC M bk cn cn) (hc : (cn.l + 1) * 1 ≤ am_cap 5) (hn : cn.l + 1 < 2 ^ 31) (hv : ∀ j, j < 1 → vals (0 + j) = nI (v (11 + j))) : BkC (addM M 5 1 cn.l vals) (bkSet bk 11 11 cn.l v) (cnAdd cn 6) (cnAdd cn 6) := by
  have eo : ∀ s i, s ≠ 5 → addM M 5 1 cn.l vals (2, s, i) = M (2, s, i) := fun s i hs => addM_o (fun e => by simp only [Prod.mk.injEq] at e; omega) (fun e => by simp only [Prod.mk.injEq] at e; omega)
  refine ⟨CnLe.rf, K.t1.cg (eo 1 0 (by omega)), K.t2.cg (eo 2 0 (by omega)), K.t3.cg (eo 3 0 (by omega)), K.t4.cg (eo 4 0 (by omega)), addM_ok K.t5 hc hn, fun i hi => ?_, fun i hi => ?_, fun i hi => ?_, fun i hi => ?_, fun i hi => ?_⟩
  · have h := K.r i hi
    rw [eo 1 1 (by omega)]
    exact ⟨h.1.trans (congrArg nI (bkSet_o (t := 0) (Or.inl (by omega))).symm), h.2.1.trans (congrArg nI (bkSet_o (t := 1) (Or.inl (by omega))).symm), h.2.2.trans (congrArg nI (bkSet_o (t := 2) (Or.inl (by omega))).symm)⟩
  · have h := K.c i hi
    rw [eo 2 1 (by omega)]
    exact ⟨h.1.trans (congrArg nI (bkSet_o (t := 3) (Or.inl (by omega))).symm), h.2.1.trans (congrArg nI (bkSet_o (t := 4) (Or.inl (by omega))).symm), h.2.2.1.trans (congrArg nI (bkSet_o (t := 5) (Or.inl (by omega))).symm), h.2.2.2.1.trans (congrArg nI (bkSet_o (t := 6) (Or.inl (by omega))).symm), h.2.2.2.2.trans (congrArg nI (bkSet_o (t := 7) (Or.inl (by omega))).symm)⟩
  · have h := K.w i hi
    rw [eo 3 1 (by omega)]
    exact ⟨h.1.trans (congrArg nI (bkSet_o (t := 8) (Or.inl (by omega))).symm), h.2.1.trans (congrArg nI (bkSet_o (t := 9) (Or.inl (by omega))).symm), h.2.2.trans (congrArg nI (bkSet_o (t := 10) (Or.inl (by omega))).symm)⟩
  · by_cases e : i = cn.l
    · subst e
      rw [addM_new (by omega)]
      exact (hv 0 (by omega)).trans (congrArg nI (bkSet_in (t := 11) (by omega) (by omega)).symm)
    · have hi' : i < cn.l := by
        have : (cnAdd cn 6).l = cn.l + 1 := rfl
        omega
      have h := K.l i hi'
      rw [addM_oldR hi' (by omega)]
      exact h.trans (congrArg nI (bkSet_o (t := 11) (Or.inr (Or.inr e))).symm)
  · have h := K.k i hi
    rw [eo 4 1 (by omega)]
    have e : ∀ t, 12 ≤ t → bkSet bk 11 11 cn.l v t i = bk t i := fun t ht => bkSet_o (Or.inr (Or.inl (by omega)))
    exact ⟨h.1.trans (congrArg nI (e 12 (by omega)).symm), fun m hm => (h.2 m hm).trans (congrArg nI (e (13 + m) (by omega)).symm)⟩
theorem BkM.addl (K : BkM M bk cn) (eo : ∀ i, 8 ≤ i → i ≤ 21 → i ≠ 19 → M7 (3, 0, i) = M (3, 0, i)) (e0 : M7 (3, 0, 19) = upd (M (3, 0, 19)) cn.l (nI (v 11))) : BkM M7 (bkSet bk 11 11 cn.l v) (cnAdd cn 6) := by
  refine ⟨fun i hi => ?_, fun i hi => ?_, fun i hi => ?_, fun i hi => ?_, fun i hi => ?_⟩
  · have h := K.r i hi
    rw [eo 8 (by omega) (by omega) (by omega), eo 9 (by omega) (by omega) (by omega), eo 10 (by omega) (by omega) (by omega)]
    exact ⟨h.1.trans (congrArg nI (bkSet_o (t := 0) (Or.inl (by omega))).symm), h.2.1.trans (congrArg nI (bkSet_o (t := 1) (Or.inl (by omega))).symm), h.2.2.trans (congrArg nI (bkSet_o (t := 2) (Or.inl (by omega))).symm)⟩
  · have h := K.c i hi
    rw [eo 11 (by omega) (by omega) (by omega), eo 12 (by omega) (by omega) (by omega), eo 13 (by omega) (by omega) (by omega), eo 14 (by omega) (by omega) (by omega), eo 15 (by omega) (by omega) (by omega)]
    exact ⟨h.1.trans (congrArg nI (bkSet_o (t := 3) (Or.inl (by omega))).symm), h.2.1.trans (congrArg nI (bkSet_o (t := 4) (Or.inl (by omega))).symm), h.2.2.1.trans (congrArg nI (bkSet_o (t := 5) (Or.inl (by omega))).symm), h.2.2.2.1.trans (congrArg nI (bkSet_o (t := 6) (Or.inl (by omega))).symm), h.2.2.2.2.trans (congrArg nI (bkSet_o (t := 7) (Or.inl (by omega))).symm)⟩
  · have h := K.w i hi
    rw [eo 16 (by omega) (by omega) (by omega), eo 17 (by omega) (by omega) (by omega), eo 18 (by omega) (by omega) (by omega)]
    exact ⟨h.1.trans (congrArg nI (bkSet_o (t := 8) (Or.inl (by omega))).symm), h.2.1.trans (congrArg nI (bkSet_o (t := 9) (Or.inl (by omega))).symm), h.2.2.trans (congrArg nI (bkSet_o (t := 10) (Or.inl (by omega))).symm)⟩
  · by_cases e : i = cn.l
    · subst e
      rw [e0, pk_us]
      exact congrArg nI (bkSet_in (t := 11) (by omega) (by omega)).symm
    · have hi' : i < cn.l := by
        have : (cnAdd cn 6).l = cn.l + 1 := rfl
        omega
      have h := K.l i hi'
      rw [e0, pk_un e]
      exact h.trans (congrArg nI (bkSet_o (t := 11) (Or.inr (Or.inr e))).symm)
  · have h := K.k i hi
    rw [eo 20 (by omega) (by omega) (by omega), eo 21 (by omega) (by omega) (by omega)]
    have e : ∀ t, 12 ≤ t → bkSet bk 11 11 cn.l v t i = bk t i := fun t ht => bkSet_o (Or.inr (Or.inl (by omega)))
    exact ⟨h.1.trans (congrArg nI (e 12 (by omega)).symm), fun m hm => (h.2 m hm).trans (congrArg nI (e (13 + m) (by omega)).symm)⟩
theorem BkGood.addl (K : BkGood bk cn) (hv : v 11 ≤ 99) : BkGood (bkSet bk 11 11 cn.l v) (cnAdd cn 6) := by
  refine ⟨fun i hi => ?_, fun i hi => ?_, fun i hi => ?_, fun i hi => ?_, fun i hi => ?_⟩
  · have h := K.rM i hi
    unfold Bk.rF Bk.rT Bk.rM at h ⊢
    rw [bkSet_o (t := 0) (Or.inl (by omega)), bkSet_o (t := 1) (Or.inl (by omega)), bkSet_o (t := 2) (Or.inl (by omega))]
    exact h
  · have h := K.c i hi
    unfold Bk.cK Bk.cW Bk.cS Bk.cH Bk.cU at h ⊢
    rw [bkSet_o (t := 3) (Or.inl (by omega)), bkSet_o (t := 4) (Or.inl (by omega)), bkSet_o (t := 5) (Or.inl (by omega)), bkSet_o (t := 6) (Or.inl (by omega)), bkSet_o (t := 7) (Or.inl (by omega))]
    exact h
  · have h := K.w i hi
    unfold Bk.wK Bk.wC Bk.wM at h ⊢
    rw [bkSet_o (t := 8) (Or.inl (by omega)), bkSet_o (t := 9) (Or.inl (by omega)), bkSet_o (t := 10) (Or.inl (by omega))]
    exact h
  · by_cases e : i = cn.l
    · subst e
      unfold Bk.lo
      rw [bkSet_in (t := 11) (by omega) (by omega)]
      exact hv
    · have hi' : i < cn.l := by
        have : (cnAdd cn 6).l = cn.l + 1 := rfl
        omega
      have h := K.l i hi'
      unfold Bk.lo at h ⊢
      rw [bkSet_o (t := 11) (Or.inr (Or.inr e))]
      exact h
  · have h := K.k i hi
    have e : ∀ t, 12 ≤ t → bkSet bk 11 11 cn.l v t i = bk t i := fun t ht => bkSet_o (Or.inr (Or.inl (by omega)))
    unfold Bk.pr Bk.od at h ⊢
    rw [e 12 (by omega)]
    exact ⟨h.1, fun m hm => by rw [e (13 + m) (by omega)]; exact h.2 m hm⟩
theorem BkC.addk (K : BkC M bk cn cn) (hc : (cn.k + 1) * 6 ≤ am_cap 4) (hn : cn.k + 1 < 2 ^ 31) (hv : ∀ j, j < 5 → vals (1 + j) = nI (v (12 + j))) : BkC (addM M 4 6 cn.k vals) (bkSet bk 12 16 cn.k v) (cnAdd cn 7) (cnAdd cn 7) := by
  have eo : ∀ s i, s ≠ 4 → addM M 4 6 cn.k vals (2, s, i) = M (2, s, i) := fun s i hs => addM_o (fun e => by simp only [Prod.mk.injEq] at e; omega) (fun e => by simp only [Prod.mk.injEq] at e; omega)
  refine ⟨CnLe.rf, K.t1.cg (eo 1 0 (by omega)), K.t2.cg (eo 2 0 (by omega)), K.t3.cg (eo 3 0 (by omega)), addM_ok K.t4 hc hn, K.t5.cg (eo 5 0 (by omega)), fun i hi => ?_, fun i hi => ?_, fun i hi => ?_, fun i hi => ?_, fun i hi => ?_⟩
  · have h := K.r i hi
    rw [eo 1 1 (by omega)]
    exact ⟨h.1.trans (congrArg nI (bkSet_o (t := 0) (Or.inl (by omega))).symm), h.2.1.trans (congrArg nI (bkSet_o (t := 1) (Or.inl (by omega))).symm), h.2.2.trans (congrArg nI (bkSet_o (t := 2) (Or.inl (by omega))).symm)⟩
  · have h := K.c i hi
    rw [eo 2 1 (by omega)]
    exact ⟨h.1.trans (congrArg nI (bkSet_o (t := 3) (Or.inl (by omega))).symm), h.2.1.trans (congrArg nI (bkSet_o (t := 4) (Or.inl (by omega))).symm), h.2.2.1.trans (congrArg nI (bkSet_o (t := 5) (Or.inl (by omega))).symm), h.2.2.2.1.trans (congrArg nI (bkSet_o (t := 6) (Or.inl (by omega))).symm), h.2.2.2.2.trans (congrArg nI (bkSet_o (t := 7) (Or.inl (by omega))).symm)⟩
  · have h := K.w i hi
    rw [eo 3 1 (by omega)]
    exact ⟨h.1.trans (congrArg nI (bkSet_o (t := 8) (Or.inl (by omega))).symm), h.2.1.trans (congrArg nI (bkSet_o (t := 9) (Or.inl (by omega))).symm), h.2.2.trans (congrArg nI (bkSet_o (t := 10) (Or.inl (by omega))).symm)⟩
  · have h := K.l i hi
    rw [eo 5 1 (by omega)]
    exact h.trans (congrArg nI (bkSet_o (t := 11) (Or.inl (by omega))).symm)
  · by_cases e : i = cn.k
    · subst e
      refine ⟨?_, fun m hm => ?_⟩
      · rw [addM_new (by omega)]
        exact (hv 0 (by omega)).trans (congrArg nI (bkSet_in (t := 12) (by omega) (by omega)).symm)
      · rw [addM_new (by omega), show 2 + m = 1 + (1 + m) by omega]
        have e2 := (hv (1 + m) (by omega)).trans (congrArg nI (bkSet_in (bk := bk) (n := cn.k) (v := v) (lo := 12) (hi := 16) (t := 12 + (1 + m)) (by omega) (by omega)).symm)
        rw [show 12 + (1 + m) = 13 + m by omega] at e2
        exact e2
    · have hi' : i < cn.k := by
        have : (cnAdd cn 7).k = cn.k + 1 := rfl
        omega
      have h := K.k i hi'
      rw [addM_oldR hi' (by omega)]
      refine ⟨h.1.trans (congrArg nI (bkSet_o (t := 12) (Or.inr (Or.inr e))).symm), fun m hm => ?_⟩
      rw [addM_oldR hi' (by omega)]
      exact (h.2 m hm).trans (congrArg nI (bkSet_o (t := 13 + m) (Or.inr (Or.inr e))).symm)
theorem BkM.addk (K : BkM M bk cn) (eo : ∀ i, 8 ≤ i → i ≤ 21 → i ≠ 20 → i ≠ 21 → M7 (3, 0, i) = M (3, 0, i)) (e0 : M7 (3, 0, 20) = upd (M (3, 0, 20)) cn.k (nI (v 12))) (e1 : ∀ i, i < 4 * cn.k → M7 (3, 0, 21) i = M (3, 0, 21) i) (e2 : ∀ m, m < 4 → M7 (3, 0, 21) (4 * cn.k + m) = nI (v (13 + m))) : BkM M7 (bkSet bk 12 16 cn.k v) (cnAdd cn 7) := by
  refine ⟨fun i hi => ?_, fun i hi => ?_, fun i hi => ?_, fun i hi => ?_, fun i hi => ?_⟩
  · have h := K.r i hi
    rw [eo 8 (by omega) (by omega) (by omega) (by omega), eo 9 (by omega) (by omega) (by omega) (by omega), eo 10 (by omega) (by omega) (by omega) (by omega)]
    exact ⟨h.1.trans (congrArg nI (bkSet_o (t := 0) (Or.inl (by omega))).symm), h.2.1.trans (congrArg nI (bkSet_o (t := 1) (Or.inl (by omega))).symm), h.2.2.trans (congrArg nI (bkSet_o (t := 2) (Or.inl (by omega))).symm)⟩
  · have h := K.c i hi
    rw [eo 11 (by omega) (by omega) (by omega) (by omega), eo 12 (by omega) (by omega) (by omega) (by omega), eo 13 (by omega) (by omega) (by omega) (by omega), eo 14 (by omega) (by omega) (by omega) (by omega), eo 15 (by omega) (by omega) (by omega) (by omega)]
    exact ⟨h.1.trans (congrArg nI (bkSet_o (t := 3) (Or.inl (by omega))).symm), h.2.1.trans (congrArg nI (bkSet_o (t := 4) (Or.inl (by omega))).symm), h.2.2.1.trans (congrArg nI (bkSet_o (t := 5) (Or.inl (by omega))).symm), h.2.2.2.1.trans (congrArg nI (bkSet_o (t := 6) (Or.inl (by omega))).symm), h.2.2.2.2.trans (congrArg nI (bkSet_o (t := 7) (Or.inl (by omega))).symm)⟩
  · have h := K.w i hi
    rw [eo 16 (by omega) (by omega) (by omega) (by omega), eo 17 (by omega) (by omega) (by omega) (by omega), eo 18 (by omega) (by omega) (by omega) (by omega)]
    exact ⟨h.1.trans (congrArg nI (bkSet_o (t := 8) (Or.inl (by omega))).symm), h.2.1.trans (congrArg nI (bkSet_o (t := 9) (Or.inl (by omega))).symm), h.2.2.trans (congrArg nI (bkSet_o (t := 10) (Or.inl (by omega))).symm)⟩
  · have h := K.l i hi
    rw [eo 19 (by omega) (by omega) (by omega) (by omega)]
    exact h.trans (congrArg nI (bkSet_o (t := 11) (Or.inl (by omega))).symm)
  · by_cases e : i = cn.k
    · subst e
      rw [e0]
      refine ⟨?_, fun m hm => ?_⟩
      · rw [pk_us]
        exact congrArg nI (bkSet_in (t := 12) (by omega) (by omega)).symm
      · rw [e2 m hm]
        exact congrArg nI (bkSet_in (t := 13 + m) (by omega) (by omega)).symm
    · have hi' : i < cn.k := by
        have : (cnAdd cn 7).k = cn.k + 1 := rfl
        omega
      have h := K.k i hi'
      rw [e0, pk_un e]
      refine ⟨h.1.trans (congrArg nI (bkSet_o (t := 12) (Or.inr (Or.inr e))).symm), fun m hm => ?_⟩
      rw [e1 _ (by omega)]
      exact (h.2 m hm).trans (congrArg nI (bkSet_o (t := 13 + m) (Or.inr (Or.inr e))).symm)
theorem BkGood.addk (K : BkGood bk cn) (hv : (1 ≤ v 12 ∧ v 12 ≤ 100) ∧ ∀ m, m < 4 → v (13 + m) ≤ 99) : BkGood (bkSet bk 12 16 cn.k v) (cnAdd cn 7) := by
  refine ⟨fun i hi => ?_, fun i hi => ?_, fun i hi => ?_, fun i hi => ?_, fun i hi => ?_⟩
  · have h := K.rM i hi
    unfold Bk.rF Bk.rT Bk.rM at h ⊢
    rw [bkSet_o (t := 0) (Or.inl (by omega)), bkSet_o (t := 1) (Or.inl (by omega)), bkSet_o (t := 2) (Or.inl (by omega))]
    exact h
  · have h := K.c i hi
    unfold Bk.cK Bk.cW Bk.cS Bk.cH Bk.cU at h ⊢
    rw [bkSet_o (t := 3) (Or.inl (by omega)), bkSet_o (t := 4) (Or.inl (by omega)), bkSet_o (t := 5) (Or.inl (by omega)), bkSet_o (t := 6) (Or.inl (by omega)), bkSet_o (t := 7) (Or.inl (by omega))]
    exact h
  · have h := K.w i hi
    unfold Bk.wK Bk.wC Bk.wM at h ⊢
    rw [bkSet_o (t := 8) (Or.inl (by omega)), bkSet_o (t := 9) (Or.inl (by omega)), bkSet_o (t := 10) (Or.inl (by omega))]
    exact h
  · have h := K.l i hi
    unfold Bk.lo at h ⊢
    rw [bkSet_o (t := 11) (Or.inl (by omega))]
    exact h
  · by_cases e : i = cn.k
    · subst e
      unfold Bk.pr Bk.od
      rw [bkSet_in (t := 12) (by omega) (by omega)]
      exact ⟨hv.1, fun m hm => by rw [bkSet_in (t := 13 + m) (by omega) (by omega)]; exact hv.2 m hm⟩
    · have hi' : i < cn.k := by
        have : (cnAdd cn 7).k = cn.k + 1 := rfl
        omega
      have h := K.k i hi'
      unfold Bk.pr Bk.od at h ⊢
      rw [bkSet_o (t := 12) (Or.inr (Or.inr e))]
      exact ⟨h.1, fun m hm => by rw [bkSet_o (t := 13 + m) (Or.inr (Or.inr e))]; exact h.2 m hm⟩
end BN
