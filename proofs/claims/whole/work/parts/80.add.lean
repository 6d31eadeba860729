/-! ===== adding to tables and to the log ===== -/
def addM (M : am_I) (t w n : Nat) (v : Nat → Int32) : am_I := am_s (am_u M (2, t, 0) 3 (nI (n + 1))) (2, t, 1) (fun i => if n * w ≤ i ∧ i < n * w + w then v (i - n * w) else M (2, t, 1) i)
def v6 (a b c d e f : Int32) : Nat → Int32 := fun j => if j = 0 then a else if j = 1 then b else if j = 2 then c else if j = 3 then d else if j = 4 then e else f
section AD
variable {M M' : am_I} {N : am_N} {t w n mx : Nat} {v : Nat → Int32} {post : am_I → am_N → Prop} {postI : Int32 → am_I → am_N → Prop} {lg : Lg}
theorem addM_o {c : am_C} (h0 : c ≠ (2, t, 0)) (h1 : c ≠ (2, t, 1)) : addM M t w n v c = M c := by
  unfold addM
  rw [am_s_other _ _ h1, am_u_o _ _ _ h0]
theorem addM_0 {j : Nat} (h : j ≠ 3) : addM M t w n v (2, t, 0) j = M (2, t, 0) j := by
  unfold addM
  rw [am_s_other _ _ (by simp), am_u_c, pk_un h]
theorem addM_n : addM M t w n v (2, t, 0) 3 = nI (n + 1) := by
  unfold addM
  rw [am_s_other _ _ (by simp), am_u_c, pk_us]
theorem addM_new {j : Nat} (h : j < w) : addM M t w n v (2, t, 1) (n * w + j) = v j := by
  unfold addM
  rw [am_s_same, if_pos ⟨by omega, by omega⟩]
  congr 1
  omega
theorem addM_old {i : Nat} (h : i < n * w) : addM M t w n v (2, t, 1) i = M (2, t, 1) i := by
  unfold addM
  rw [am_s_same, if_neg (by omega)]
theorem addM_oldR {r j : Nat} (hr : r < n) (hj : j < w) : addM M t w n v (2, t, 1) (r * w + j) = M (2, t, 1) (r * w + j) := by
  refine addM_old ?_
  have : (r + 1) * w ≤ n * w := Nat.mul_le_mul_right w hr
  rw [Nat.succ_mul] at this
  omega
theorem addM_ok (hT : tabOK M t w n) (hc : (n + 1) * w ≤ am_cap t) (hn : n + 1 < 2 ^ 31) : tabOK (addM M t w n v) t w (n + 1) := by
  obtain ⟨h1, h2, h3, h4, h5, h6⟩ := hT
  refine ⟨?_, addM_n, hc, h4, hn, h6⟩
  rw [addM_0 (by decide)]
  exact h1
theorem sp_put {k : Nat} (hT : tabOK M t w n) (hc : (n + 1) * w ≤ am_cap t) (hn : n + 1 < 2 ^ 31) (hk : k < 2 ^ 31)
    (h : post (am_s (am_u M (2, t, 0) 3 (nI (n + 1))) (2, t, 1) (fun i => if n * w ≤ i ∧ i < n * w + min (k + 1) w then v (i - n * w) else M (2, t, 1) i)) N) :
    w_X9_put t (nI k) (v k) (am_s (am_u M (2, t, 0) 3 (nI (n + 1))) (2, t, 1) (fun i => if n * w ≤ i ∧ i < n * w + min k w then v (i - n * w) else M (2, t, 1) i)) N post := by
  obtain ⟨h1, h2, h3, h4, h5, h6⟩ := hT
  have e1 : am_s (am_u M (2, t, 0) 3 (nI (n + 1))) (2, t, 1) (fun i => if n * w ≤ i ∧ i < n * w + min k w then v (i - n * w) else M (2, t, 1) i) (2, t, 0) 1 = nI w := by
    rw [am_s_other _ _ (by simp), am_u_c, pk_un (by decide)]
    exact h1
  have e3 : am_s (am_u M (2, t, 0) 3 (nI (n + 1))) (2, t, 1) (fun i => if n * w ≤ i ∧ i < n * w + min k w then v (i - n * w) else M (2, t, 1) i) (2, t, 0) 3 = nI (n + 1) := by
    rw [am_s_other _ _ (by simp), am_u_c, pk_us]
  unfold w_X9_put
  rw [e1, e3]
  by_cases e : w ≤ k
  · refine ⟨fun _ => ?_, fun z => absurd (nI_le e hk) z⟩
    rw [show min (k + 1) w = min k w by omega] at h
    exact h
  · have hkw : k < w := by omega
    have hmul : (n + 1) * w = n * w + w := Nat.succ_mul n w
    have ei : (nI (n + 1) - 1) * nI w + nI k = nI (n * w + k) := by rw [nI_pred, pk_mul, nI_add]
    rw [ei, nI_clamp (by omega)]
    refine ⟨fun z => absurd z (nI_ge hkw h6), fun _ => ⟨fun z => absurd z (nI_nle (by omega) hn), fun _ => ⟨vp_in_nI (by omega) h4, ?_⟩⟩⟩
    rw [am_u_s]
    have eu : upd (fun i => if n * w ≤ i ∧ i < n * w + min k w then v (i - n * w) else M (2, t, 1) i) (n * w + k) (v k) = (fun i => if n * w ≤ i ∧ i < n * w + min (k + 1) w then v (i - n * w) else M (2, t, 1) i) := by
      funext i
      by_cases z : i = n * w + k
      · subst z
        rw [pk_us, if_pos ⟨by omega, by omega⟩]
        congr 1
        omega
      · rw [pk_un z]
        by_cases y : n * w ≤ i ∧ i < n * w + min k w
        · rw [if_pos y, if_pos ⟨y.1, by omega⟩]
        · rw [if_neg y, if_neg (by omega)]
    rw [eu]
    exact h
theorem sp_isFull (hT : tabOK M t w n) (hm : M (2, t, 0) 2 = nI mx) (hmx : mx < 2 ^ 31) (h0 : n < mx → postI 0 M N) (h1 : mx ≤ n → postI 1 M N) : w_X9_isFull t M N postI := by
  have hn := hT.2.2.2.2.1
  unfold w_X9_isFull
  rw [hT.2.1, hm, nI_ltI hn hmx]
  exact ⟨fun z => h0 z, fun z => h1 (by omega)⟩
theorem sp_add {a0 a1 a2 a3 a4 a5 : Int32} (hT : tabOK M t w n) (hm : M (2, t, 0) 2 = nI mx) (hmx : mx < 2 ^ 31) (hn : n < mx) (hc : (n + 1) * w ≤ am_cap t) (h6 : w ≤ 6) (h : post (addM M t w n (v6 a0 a1 a2 a3 a4 a5)) N) : w_X9_add t a0 a1 a2 a3 a4 a5 M N post := by
  have hn1 : n + 1 < 2 ^ 31 := by omega
  unfold w_X9_add
  refine sp_isFull hT hm hmx (fun _ => ⟨fun _ => ?_, fun z => absurd rfl z⟩) (fun z => by omega)
  rw [hT.2.1, nI_1]
  have e0 : am_u M (2, t, 0) 3 (nI (n + 1)) = am_s (am_u M (2, t, 0) 3 (nI (n + 1))) (2, t, 1) (fun i => if n * w ≤ i ∧ i < n * w + min 0 w then v6 a0 a1 a2 a3 a4 a5 (i - n * w) else M (2, t, 1) i) := by
    have : (fun i => if n * w ≤ i ∧ i < n * w + min 0 w then v6 a0 a1 a2 a3 a4 a5 (i - n * w) else M (2, t, 1) i) = am_u M (2, t, 0) 3 (nI (n + 1)) (2, t, 1) := by
      rw [am_u_o _ _ _ (by simp)]
      funext i
      rw [if_neg (by omega)]
    rw [this, am_s_id]
  rw [e0]
  refine sp_put (k := 0) (v := v6 a0 a1 a2 a3 a4 a5) hT hc hn1 (by omega) ?_
  refine sp_put (k := 1) (v := v6 a0 a1 a2 a3 a4 a5) hT hc hn1 (by omega) ?_
  refine sp_put (k := 2) (v := v6 a0 a1 a2 a3 a4 a5) hT hc hn1 (by omega) ?_
  refine sp_put (k := 3) (v := v6 a0 a1 a2 a3 a4 a5) hT hc hn1 (by omega) ?_
  refine sp_put (k := 4) (v := v6 a0 a1 a2 a3 a4 a5) hT hc hn1 (by omega) ?_
  refine sp_put (k := 5) (v := v6 a0 a1 a2 a3 a4 a5) hT hc hn1 (by omega) ?_
  rw [show min (5 + 1) w = w by omega]
  exact h
/-- the log has a new row -/
theorem LgC.add {now wh a bb c : Nat} {x5 : Int32} (L : LgC M lg n) (hn : n < 400) (v2 : Int32) (hv2 : wh ≠ 6 → wh ≠ 7 → v2 = nI a) : LgC (addM M 0 5 n (v6 (nI now) (nI wh) v2 (nI bb) (nI c) x5)) (addL lg n now wh a bb c) (n + 1) := by
  have hok := addM_ok (v := v6 (nI now) (nI wh) v2 (nI bb) (nI c) x5) L.t (show (n + 1) * 5 ≤ am_cap 0 by show (n + 1) * 5 ≤ 2000; omega) (by omega)
  refine ⟨hok, fun i hi => ?_, fun i hi => ⟨hok, hi, ?_⟩⟩
  · by_cases e : i = n
    · subst e
      rw [addM_new (by omega), addL_0]
      rfl
    · rw [addM_oldR (by omega) (by omega), addL_o e]
      exact L.h i (by omega)
  · by_cases e : i = n
    · subst e
      rw [addM_new (by omega), addM_new (by omega), addM_new (by omega), addM_new (by omega), addL_1, addL_2, addL_3, addL_4]
      exact ⟨rfl, hv2, rfl, rfl⟩
    · rw [addM_oldR (by omega) (by omega), addM_oldR (by omega) (by omega), addM_oldR (by omega) (by omega), addM_oldR (by omega) (by omega), addL_o e, addL_o e, addL_o e, addL_o e]
      exact (L.r i (by omega)).2.2
theorem BkC.cg5 {bk : Bk} {cn full : Cn} (h : BkC M bk cn full) (e : ∀ t i, 1 ≤ t → t ≤ 5 → M' (2, t, i) = M (2, t, i)) : BkC M' bk cn full := by
  refine ⟨?_, ?_, ?_, ?_, ?_, ?_, ?_, ?_, ?_, ?_, ?_⟩
  · exact h.le
  · exact h.t1.cg (e _ _ (by omega) (by omega))
  · exact h.t2.cg (e _ _ (by omega) (by omega))
  · exact h.t3.cg (e _ _ (by omega) (by omega))
  · exact h.t4.cg (e _ _ (by omega) (by omega))
  · exact h.t5.cg (e _ _ (by omega) (by omega))
  · exact fun r hr => by rw [e 1 1 (by omega) (by omega)]; exact h.r r hr
  · exact fun r hr => by rw [e 2 1 (by omega) (by omega)]; exact h.c r hr
  · exact fun r hr => by rw [e 3 1 (by omega) (by omega)]; exact h.w r hr
  · exact fun r hr => by rw [e 5 1 (by omega) (by omega)]; exact h.l r hr
  · exact fun r hr => by rw [e 4 1 (by omega) (by omega)]; exact h.k r hr
/-- the reference tells -/
def tellM (M : am_I) (n : Nat) (a1 a2 a3 a4 : Int32) : am_I := am_u (am_u (am_u (am_u (am_u (am_u M (3, 0, 3) n a1) (3, 0, 4) n (M (3, 0, 1) 1624)) (3, 0, 5) n a2) (3, 0, 6) n a3) (3, 0, 7) n a4) (3, 0, 0) 4 (nI (n + 1))
theorem r_tells {a1 a2 a3 a4 : Int32} (hk : M (3, 0, 0) 4 = nI n) (hn : n < 400) (h : w_X12_does (nI n) (tellM M n a1 a2 a3 a4) N post) : w_X12_tells a1 a2 a3 a4 M N post := by
  have vn : vp_in (nI n) 400 := vp_in_nI hn (by omega)
  unfold w_X12_tells
  simp (disch := decide) only [am_u_o, hk, nI_clamp (show n < 2 ^ 31 by omega), am_u_c, pk_us, nI_1, nI_pred]
  exact ⟨vn, vn, vn, vn, vn, h⟩
theorem tellM_o {a1 a2 a3 a4 : Int32} {c : am_C} (h3 : c ≠ (3, 0, 3)) (h4 : c ≠ (3, 0, 4)) (h5 : c ≠ (3, 0, 5)) (h6 : c ≠ (3, 0, 6)) (h7 : c ≠ (3, 0, 7)) (h0 : c ≠ (3, 0, 0)) : tellM M n a1 a2 a3 a4 c = M c := by
  unfold tellM
  rw [am_u_o _ _ _ h0, am_u_o _ _ _ h7, am_u_o _ _ _ h6, am_u_o _ _ _ h5, am_u_o _ _ _ h4, am_u_o _ _ _ h3]
theorem tellM_0 {a1 a2 a3 a4 : Int32} : tellM M n a1 a2 a3 a4 (3, 0, 0) = upd (M (3, 0, 0)) 4 (nI (n + 1)) := by
  unfold tellM
  rw [am_u_c, am_u_o _ _ _ (by simp), am_u_o _ _ _ (by simp), am_u_o _ _ _ (by simp), am_u_o _ _ _ (by simp), am_u_o _ _ _ (by simp)]
theorem tellM_3 {a1 a2 a3 a4 : Int32} : tellM M n a1 a2 a3 a4 (3, 0, 3) = upd (M (3, 0, 3)) n a1 := by
  unfold tellM
  rw [am_u_o _ _ _ (by simp), am_u_o _ _ _ (by simp), am_u_o _ _ _ (by simp), am_u_o _ _ _ (by simp), am_u_o _ _ _ (by simp), am_u_c]
theorem tellM_4 {a1 a2 a3 a4 : Int32} : tellM M n a1 a2 a3 a4 (3, 0, 4) = upd (M (3, 0, 4)) n (M (3, 0, 1) 1624) := by
  unfold tellM
  rw [am_u_o _ _ _ (by simp), am_u_o _ _ _ (by simp), am_u_o _ _ _ (by simp), am_u_o _ _ _ (by simp), am_u_c, am_u_o _ _ _ (by simp)]
theorem tellM_5 {a1 a2 a3 a4 : Int32} : tellM M n a1 a2 a3 a4 (3, 0, 5) = upd (M (3, 0, 5)) n a2 := by
  unfold tellM
  rw [am_u_o _ _ _ (by simp), am_u_o _ _ _ (by simp), am_u_o _ _ _ (by simp), am_u_c, am_u_o _ _ _ (by simp), am_u_o _ _ _ (by simp)]
theorem tellM_6 {a1 a2 a3 a4 : Int32} : tellM M n a1 a2 a3 a4 (3, 0, 6) = upd (M (3, 0, 6)) n a3 := by
  unfold tellM
  rw [am_u_o _ _ _ (by simp), am_u_o _ _ _ (by simp), am_u_c, am_u_o _ _ _ (by simp), am_u_o _ _ _ (by simp), am_u_o _ _ _ (by simp)]
theorem tellM_7 {a1 a2 a3 a4 : Int32} : tellM M n a1 a2 a3 a4 (3, 0, 7) = upd (M (3, 0, 7)) n a4 := by
  unfold tellM
  rw [am_u_o _ _ _ (by simp), am_u_c, am_u_o _ _ _ (by simp), am_u_o _ _ _ (by simp), am_u_o _ _ _ (by simp), am_u_o _ _ _ (by simp)]
theorem LgM.add {now wh a bb c : Nat} (L : LgM M lg n) (hnow : M (3, 0, 1) 1624 = nI now) (v2 : Int32) (hv2 : wh ≠ 6 → wh ≠ 7 → v2 = nI a) : LgM (tellM M n (nI wh) v2 (nI bb) (nI c)) (addL lg n now wh a bb c) (n + 1) := by
  refine ⟨fun i hi => ?_, fun i hi => ?_⟩
  · rw [tellM_4]
    by_cases e : i = n
    · subst e; rw [pk_us, addL_0]; exact hnow
    · rw [pk_un e, addL_o e]; exact L.h i (by omega)
  · unfold rowM
    rw [tellM_3, tellM_5, tellM_6, tellM_7]
    by_cases e : i = n
    · subst e
      rw [pk_us, pk_us, pk_us, pk_us, addL_1, addL_2, addL_3, addL_4]
      exact ⟨rfl, hv2, rfl, rfl⟩
    · rw [pk_un e, pk_un e, pk_un e, pk_un e, addL_o e, addL_o e, addL_o e, addL_o e]
      exact L.r i (by omega)
end AD
