/-! ===== calls that add to the book ===== -/
def bkSet (bk : Bk) (lo hi n : Nat) (v : Nat → Nat) : Bk := fun t i => if lo ≤ t ∧ t ≤ hi ∧ i = n then v t else bk t i
theorem bkSet_in {bk : Bk} {lo hi n t : Nat} {v : Nat → Nat} (h1 : lo ≤ t) (h2 : t ≤ hi) : bkSet bk lo hi n v t n = v t := if_pos ⟨h1, h2, rfl⟩
theorem bkSet_o {bk : Bk} {lo hi n t i : Nat} {v : Nat → Nat} (h : t < lo ∨ hi < t ∨ i ≠ n) : bkSet bk lo hi n v t i = bk t i := if_neg (fun z => by omega)
section NW
variable {M M7 M1 : am_I} {N N1 : am_N} {bk bk' : Bk} {lg : Lg} {NN now wh n t w mx a bb c : Nat} {wd wd' : Nat → Nat} {a0 a1 a2 a3 a4 a5 v2 : Int32} {post : am_I → am_N → Prop} {postI : Int32 → am_I → am_N → Prop}
theorem bkSet_ag {lo hi : Nat} {v : Nat → Nat} {cn : Cn} (h : ∀ t, lo ≤ t → t ≤ hi → bndB cn t ≤ n) : bkAg bk (bkSet bk lo hi n v) cn := fun t i hi' => by
  by_cases e : lo ≤ t ∧ t ≤ hi
  · exact bkSet_o (Or.inr (Or.inr (by have := h t e.1 e.2; omega)))
  · exact bkSet_o (by omega)
theorem c_hasRoom (I : ICl bk lg NN now wd M N) (hT : tabOK M t w n) (hm : M (2, t, 0) 2 = nI mx) (hmx : mx < 2 ^ 31) (h1 : n < mx → NN < 400 → postI 1 M N) (h0 : ¬ (n < mx ∧ NN < 400) → postI 0 M N) : w_X0_hasRoom t M N postI := by
  unfold w_X0_hasRoom
  refine sp_isFull hT hm hmx (fun hn => ⟨fun z => absurd rfl z, fun _ => sp_isFull I.L.t I.mx.t0 (by omega) (fun hN => ⟨fun z => absurd rfl z, fun _ => h1 hn hN⟩) (fun hN => ⟨fun _ => h0 (by omega), fun z => absurd z (by decide)⟩)⟩) (fun hn => ⟨fun _ => h0 (by omega), fun z => absurd z (by decide)⟩)
theorem c_new (P : IP bk lg NN now wd) (I : ICl bk lg NN now wd M N) (hN : NN < 400) (ht : 1 ≤ t ∧ t ≤ 5) (hT : tabOK M t w n) (hm : M (2, t, 0) 2 = nI mx) (hmx : mx < 2 ^ 31) (hn : n < mx) (hc : (n + 1) * w ≤ am_cap t) (h6 : w ≤ 6) (X : BKX bk' (addL lg NN now wh n 0 0) (NN + 1)) (hag : bkAg bk bk' (cnL lg NN)) (K7 : BkC (addM M t w n (v6 a0 a1 a2 a3 a4 a5)) bk' (cnAdd (cnL lg NN) wh) (cnAdd (cnL lg NN) wh)) (D7 : ∀ k, k < (cnAdd (cnL lg NN) wh).k → addM M t w n (v6 a0 a1 a2 a3 a4 a5) (2, 4, 1) (k * 6 + 0) = nI (wd' k)) (hz : ∀ k, (cnAdd (cnL lg NN) wh).k ≤ k → wd' k = 0) (hb : ∀ k, wd' k ≤ 1)
    (h : ∀ M1 N1, FrC M N M1 N1 → IP bk' (addL lg NN now wh n 0 0) (NN + 1) now wd' → ICl bk' (addL lg NN now wh n 0 0) (NN + 1) now wd' M1 N1 → postI (nI n) M1 N1) : w_X9_add t a0 a1 a2 a3 a4 a5 M N (fun zM2 zN3 => w_X11_tellNewest t (nI wh) zM2 zN3 (fun zr zM zN => postI zr zM zN)) := by
  refine sp_add hT hm hmx hn hc h6 ?_
  have e1 : ∀ x i, addM M t w n (v6 a0 a1 a2 a3 a4 a5) (1, x, i) = M (1, x, i) := fun x i => addM_o (by simp) (by simp)
  have e0 : ∀ i, addM M t w n (v6 a0 a1 a2 a3 a4 a5) (2, 0, i) = M (2, 0, i) := fun i => addM_o (fun e => by simp only [Prod.mk.injEq] at e; omega) (fun e => by simp only [Prod.mk.injEq] at e; omega)
  have emx : ∀ s, addM M t w n (v6 a0 a1 a2 a3 a4 a5) (2, s, 0) 2 = M (2, s, 0) 2 := fun s => by
    by_cases e : s = t
    · subst e; exact addM_0 (by decide)
    · rw [addM_o (fun z => by simp only [Prod.mk.injEq] at z; omega) (fun z => by simp only [Prod.mk.injEq] at z; omega)]
  have hF : FrC M N (addM M t w n (v6 a0 a1 a2 a3 a4 a5)) N := fun c hc => ⟨addM_o (fun e => by subst e; simp at hc; omega) (fun e => by subst e; simp at hc; omega), rfl⟩
  have en := addM_n (M := M) (t := t) (w := w) (n := n) (v := v6 a0 a1 a2 a3 a4 a5)
  have L7 : LgC (addM M t w n (v6 a0 a1 a2 a3 a4 a5)) lg NN := I.L.cg e0
  generalize addM M t w n (v6 a0 a1 a2 a3 a4 a5) = M7 at K7 D7 e1 e0 emx hF en L7 ⊢
  unfold w_X11_tellNewest
  rw [en, nI_pred, e1, I.nowI P]
  intro v ev
  subst ev
  have t07 : M7 (2, 0, 0) 2 = nI 400 := by rw [emx]; exact I.mx.t0
  refine sp_add L7.t t07 (by omega) hN (by show (NN + 1) * 5 ≤ 2000; omega) (by omega) ?_
  have eT : ∀ s i, 1 ≤ s → addM M7 0 5 NN (v6 (nI now) (nI wh) (nI n) 0 0 0) (2, s, i) = M7 (2, s, i) := fun s i hs => addM_o (fun e => by simp only [Prod.mk.injEq] at e; omega) (fun e => by simp only [Prod.mk.injEq] at e; omega)
  refine c_tellRow (wd' := wd') (bk' := bk') (a := n) (bb := 0) (c := 0) P I X hag (K7.cg5 (fun s i h1 _ => eT s i h1)) (L7.add (bb := 0) (c := 0) hN (nI n) (fun _ _ => rfl)) (fun k hk => ?_) ⟨?_, ?_, ?_, ?_, ?_, ?_⟩ (fun x i => by rw [addM_o (by simp) (by simp), e1]) (fun M2 N2 F2 I2 => h M2 N2 ?_ (P.add X hz hb) I2)
  · rw [eT 4 1 (by omega)]
    exact D7 k hk
  · rw [addM_0 (by decide)]; exact t07
  · rw [eT 1 0 (by omega), emx]; exact I.mx.t1
  · rw [eT 2 0 (by omega), emx]; exact I.mx.t2
  · rw [eT 3 0 (by omega), emx]; exact I.mx.t3
  · rw [eT 4 0 (by omega), emx]; exact I.mx.t4
  · rw [eT 5 0 (by omega), emx]; exact I.mx.t5
  · refine hF.tr (FrC.tr (fun c hc => ⟨addM_o (fun e => ?_) (fun e => ?_), rfl⟩) (FrC.ofB F2))
    · subst e; simp at hc
    · subst e; simp at hc
/-- the reference's side of it -/
theorem r_new (P : IP bk lg NN now wd) (I : IRf bk lg NN now wd M N) (hN : NN < 400) (X : BKX bk' (addL lg NN now wh a bb c) (NN + 1)) (hag : bkAg bk bk' (cnL lg NN)) (K7 : BkM M7 bk' (cnAdd (cnL lg NN) wh)) (D7 : ∀ k, k < 5 → M7 (3, 0, 22) k = nI (wd' k)) (hv2 : wh ≠ 6 → wh ≠ 7 → v2 = nI a) (e1 : M7 (3, 0, 1) = M (3, 0, 1)) (eL : ∀ i, 3 ≤ i → i ≤ 7 → M7 (3, 0, i) = M (3, 0, i)) (e4 : M7 (3, 0, 0) 4 = M (3, 0, 0) 4) (cr : M7 (3, 0, 0) 10 = nI (cnAdd (cnL lg NN) wh).r) (cc : M7 (3, 0, 0) 11 = nI (cnAdd (cnL lg NN) wh).c) (cw : M7 (3, 0, 0) 12 = nI (cnAdd (cnL lg NN) wh).w) (cl : M7 (3, 0, 0) 13 = nI (cnAdd (cnL lg NN) wh).l) (ck : M7 (3, 0, 0) 14 = nI (cnAdd (cnL lg NN) wh).k) (e30 : M7 (3, 0, 0) 30 = M (3, 0, 0) 30) (e31 : M7 (3, 0, 0) 31 = M (3, 0, 0) 31) (F7 : FrR M N M7 N)
    (h : ∀ M1 N1, FrR M N M1 N1 → IRf bk' (addL lg NN now wh a bb c) (NN + 1) now wd' M1 N1 → post M1 N1) : w_X12_tells (nI wh) v2 (nI bb) (nI c) M7 N post := by
  refine r_tells (by rw [e4]; exact I.ct.n) hN ?_
  have eo : ∀ i, 8 ≤ i ∨ i = 1 ∨ i = 2 → tellM M7 NN (nI wh) v2 (nI bb) (nI c) (3, 0, i) = M7 (3, 0, i) := fun i hi => tellM_o (fun e => by simp only [Prod.mk.injEq] at e; omega) (fun e => by simp only [Prod.mk.injEq] at e; omega) (fun e => by simp only [Prod.mk.injEq] at e; omega) (fun e => by simp only [Prod.mk.injEq] at e; omega) (fun e => by simp only [Prod.mk.injEq] at e; omega) (fun e => by simp only [Prod.mk.injEq] at e; omega)
  have L7 : LgM M7 lg NN := by
    refine ⟨fun i hi => ?_, fun i hi => ?_⟩
    · rw [eL 4 (by omega) (by omega)]; exact I.L.h i hi
    · unfold rowM
      rw [eL 3 (by omega) (by omega), eL 5 (by omega) (by omega), eL 6 (by omega) (by omega), eL 7 (by omega) (by omega)]
      exact I.L.r i hi
  refine r_tellRow (wd' := wd') (bk' := bk') (a := a) (bb := bb) (c := c) P I X hag ?_ (L7.add (by rw [e1]; exact I.nowI P) v2 hv2) (fun k hk => by rw [eo 22 (by omega)]; exact D7 k hk) ?_ (by rw [eo 1 (by omega), e1]) (by rw [tellM_0, pk_un (by decide), e31]) (fun M2 N2 F2 I2 => h M2 N2 ?_ I2)
  · refine ⟨?_, ?_, ?_, ?_, ?_⟩
    · rw [eo 8 (by omega), eo 9 (by omega), eo 10 (by omega)]; exact K7.r
    · rw [eo 11 (by omega), eo 12 (by omega), eo 13 (by omega), eo 14 (by omega), eo 15 (by omega)]; exact K7.c
    · rw [eo 16 (by omega), eo 17 (by omega), eo 18 (by omega)]; exact K7.w
    · rw [eo 19 (by omega)]; exact K7.l
    · rw [eo 20 (by omega), eo 21 (by omega)]; exact K7.k
  · refine ⟨?_, ?_, ?_, ?_, ?_, ?_, ?_⟩ <;> rw [tellM_0]
    · rw [pk_us]
    · rw [pk_un (by decide)]; exact cr
    · rw [pk_un (by decide)]; exact cc
    · rw [pk_un (by decide)]; exact cw
    · rw [pk_un (by decide)]; exact cl
    · rw [pk_un (by decide)]; exact ck
    · rw [pk_un (by decide), e30]; exact I.ct.bw
  · refine F7.tr (FrR.tr ⟨fun c hc => ⟨tellM_o (fun e => ?_) (fun e => ?_) (fun e => ?_) (fun e => ?_) (fun e => ?_) (fun e => ?_), rfl⟩, fun j hj => by rw [tellM_0, pk_un (by omega)]⟩ (FrR.ofM F2))
    all_goals (subst e; simp at hc)
theorem cnt_ne (hn : n ≤ mx) (hmx : mx < 2 ^ 31) : (¬ nI n = nI mx) ↔ n < mx := by
  rw [nI_eq (by omega) hmx]
  omega
end NW
