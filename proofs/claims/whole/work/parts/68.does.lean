/-! ===== what a row of the log does: pure, and the reference ===== -/
def cnAdd (cn : Cn) (wh : Nat) : Cn := (cn.r + (if wh = 2 then 1 else 0), cn.c + (if wh = 3 then 1 else 0), cn.w + (if wh = 5 then 1 else 0), cn.l + (if wh = 6 then 1 else 0), cn.k + (if wh = 7 then 1 else 0))
theorem cnAdd_r {cn : Cn} {wh : Nat} : (cnAdd cn wh).r = cn.r + (if wh = 2 then 1 else 0) := rfl
theorem cnAdd_c {cn : Cn} {wh : Nat} : (cnAdd cn wh).c = cn.c + (if wh = 3 then 1 else 0) := rfl
theorem cnAdd_w {cn : Cn} {wh : Nat} : (cnAdd cn wh).w = cn.w + (if wh = 5 then 1 else 0) := rfl
theorem cnAdd_l {cn : Cn} {wh : Nat} : (cnAdd cn wh).l = cn.l + (if wh = 6 then 1 else 0) := rfl
theorem cnAdd_k {cn : Cn} {wh : Nat} : (cnAdd cn wh).k = cn.k + (if wh = 7 then 1 else 0) := rfl
theorem cnAdd_o {cn : Cn} {wh : Nat} (h : wh ≠ 2 ∧ wh ≠ 3 ∧ wh ≠ 5 ∧ wh ≠ 6 ∧ wh ≠ 7) : cnAdd cn wh = cn := by
  unfold cnAdd
  rw [if_neg h.1, if_neg h.2.1, if_neg h.2.2.1, if_neg h.2.2.2.1, if_neg h.2.2.2.2]
  rfl
/-- a row is in order -/
def RowOK (cn : Cn) (wh a b c : Nat) : Prop := (wh ≤ 11) ∧ (wh = 0 → a < 64 ∧ b ≤ 99 ∧ c ≤ 999) ∧ (wh = 1 → a < 4 ∧ b ≤ 9999) ∧ (wh = 2 → a = cn.r ∧ cn.r < 30) ∧ (wh = 3 → a = cn.c ∧ cn.c < 8) ∧ (wh = 4 → a < cn.c) ∧ (wh = 5 → a = cn.w ∧ cn.w < 60) ∧ (wh = 6 → cn.l < 40) ∧ (wh = 7 → cn.k < 5) ∧ (wh = 8 → a < 64 ∧ 0 < cn.k) ∧ (wh = 9 → a < 64 ∧ b ≤ 15) ∧ (wh = 10 → a < 64 ∧ b ≤ 15) ∧ (wh = 11 → a < 64 ∧ b ≤ 1)
theorem RowOK.le {cn : Cn} {wh a b c : Nat} (h : RowOK cn wh a b c) : wh ≤ 11 := h.1
theorem RowOK.l0 {cn : Cn} {wh a b c : Nat} (h : RowOK cn wh a b c) : wh = 0 → a < 64 ∧ b ≤ 99 ∧ c ≤ 999 := h.2.1
theorem RowOK.l1 {cn : Cn} {wh a b c : Nat} (h : RowOK cn wh a b c) : wh = 1 → a < 4 ∧ b ≤ 9999 := h.2.2.1
theorem RowOK.l2 {cn : Cn} {wh a b c : Nat} (h : RowOK cn wh a b c) : wh = 2 → a = cn.r ∧ cn.r < 30 := h.2.2.2.1
theorem RowOK.l3 {cn : Cn} {wh a b c : Nat} (h : RowOK cn wh a b c) : wh = 3 → a = cn.c ∧ cn.c < 8 := h.2.2.2.2.1
theorem RowOK.l4 {cn : Cn} {wh a b c : Nat} (h : RowOK cn wh a b c) : wh = 4 → a < cn.c := h.2.2.2.2.2.1
theorem RowOK.l5 {cn : Cn} {wh a b c : Nat} (h : RowOK cn wh a b c) : wh = 5 → a = cn.w ∧ cn.w < 60 := h.2.2.2.2.2.2.1
theorem RowOK.l6 {cn : Cn} {wh a b c : Nat} (h : RowOK cn wh a b c) : wh = 6 → cn.l < 40 := h.2.2.2.2.2.2.2.1
theorem RowOK.l7 {cn : Cn} {wh a b c : Nat} (h : RowOK cn wh a b c) : wh = 7 → cn.k < 5 := h.2.2.2.2.2.2.2.2.1
theorem RowOK.l8 {cn : Cn} {wh a b c : Nat} (h : RowOK cn wh a b c) : wh = 8 → a < 64 ∧ 0 < cn.k := h.2.2.2.2.2.2.2.2.2.1
theorem RowOK.l9 {cn : Cn} {wh a b c : Nat} (h : RowOK cn wh a b c) : wh = 9 → a < 64 ∧ b ≤ 15 := h.2.2.2.2.2.2.2.2.2.2.1
theorem RowOK.l10 {cn : Cn} {wh a b c : Nat} (h : RowOK cn wh a b c) : wh = 10 → a < 64 ∧ b ≤ 15 := h.2.2.2.2.2.2.2.2.2.2.2.1
theorem RowOK.l11 {cn : Cn} {wh a b c : Nat} (h : RowOK cn wh a b c) : wh = 11 → a < 64 ∧ b ≤ 1 := h.2.2.2.2.2.2.2.2.2.2.2.2
def sowF (bk : Bk) (cn : Cn) (f : Nat → Int32) (c : Nat) : Nat → Int32 := upd (upd (upd (upd (upd (put5 f (640 + 5 * c) (sowS bk.pr cn.k)) (192 + c) 1) (256 + c) 0) (320 + c) 0) (384 + c) 0) (448 + c) 0
def comesF (bk : Bk) (f : Nat → Int32) (a : Nat) : Nat → Int32 := upd (upd (upd (upd f (960 + a) (nI (bk.cH a))) (968 + a) (nI (bk.cU a))) (984 + a) (-1)) 1631 (f 1631 + 1)
noncomputable def chargedF (bk : Bk) (but : Nat → Nat → Prop) (f : Nat → Int32) (a : Nat) : Nat → Int32 := pick (but 1 a ∨ ¬ f (976 + a) = 5) f (upd (upd f (968 + a) (nI (bk.cU a))) (976 + a) 0)
noncomputable def stat (P : Prop) : Int32 := @ite _ P (Classical.propDecidable _) 3 0
noncomputable def opensF (but : Nat → Nat → Prop) (f : Nat → Int32) (a : Nat) : Nat → Int32 := upd (upd (upd f (1504 + a) (stat (but 2 a))) (1564 + a) (-1)) 1632 (f 1632 + 1)
noncomputable def doesF (bk : Bk) (but : Nat → Nat → Prop) (cn : Cn) (wh a b c : Nat) (f : Nat → Int32) : Nat → Int32 :=
  if wh = 0 then upd (upd f a (nI b)) (64 + a) (nI c)
  else if wh = 1 then upd f (1626 + a) (nI b)
  else if wh = 2 then upd f 1630 (f 1630 + 1)
  else if wh = 3 then comesF bk f a
  else if wh = 4 then chargedF bk but f a
  else if wh = 5 then opensF but f a
  else if wh = 6 then upd f 1633 (f 1633 + 1)
  else if wh = 7 then upd f 1634 (f 1634 + 1)
  else if wh = 8 then (if f (192 + a) = 0 then sowF bk cn f a else f)
  else if wh = 9 then upd f (512 + a) (nI b)
  else if wh = 10 then seenF bk f a (nI b)
  else if f (192 + a) = 1 then upd f (320 + a) (nI b) else f
section DO
variable {M M' : am_I} {N N' : am_N} {b : Nat} {bk : Bk} {cn full : Cn} {but : Nat → Nat → Prop} {f f' g : Nat → Int32} {fe lo : Int64} {W q w goal wh a bb c : Nat} {post : am_I → am_N → Prop} {postI : Int32 → am_I → am_N → Prop} {x : Int32}
theorem sowF_o {i : Nat} (h1 : ¬ (640 + 5 * c ≤ i ∧ i < 640 + 5 * c + 5)) (h2 : i ≠ 192 + c) (h3 : i ≠ 256 + c) (h4 : i ≠ 320 + c) (h5 : i ≠ 384 + c) (h6 : i ≠ 448 + c) : sowF bk cn f c i = f i := by
  unfold sowF
  rw [pk_un h6, pk_un h5, pk_un h4, pk_un h3, pk_un h2, put5_o h1]
theorem CnB.add (h : CnB cn) (hr : RowOK cn wh a bb c) : CnB (cnAdd cn wh) := by
  obtain ⟨h1, h2, h3, h4, h5⟩ := h
  have r2 := hr.l2
  have r3 := hr.l3
  have r5 := hr.l5
  have r6 := hr.l6
  have r7 := hr.l7
  unfold CnB
  rw [cnAdd_r, cnAdd_c, cnAdd_w, cnAdd_l, cnAdd_k]
  refine ⟨?_, ?_, ?_, ?_, ?_⟩
  · by_cases e : wh = 2
    · rw [if_pos e]; have := r2 e; omega
    · rw [if_neg e]; omega
  · by_cases e : wh = 3
    · rw [if_pos e]; have := r3 e; omega
    · rw [if_neg e]; omega
  · by_cases e : wh = 5
    · rw [if_pos e]; have := r5 e; omega
    · rw [if_neg e]; omega
  · by_cases e : wh = 6
    · rw [if_pos e]; have := r6 e; omega
    · rw [if_neg e]; omega
  · by_cases e : wh = 7
    · rw [if_pos e]; have := r7 e; omega
    · rw [if_neg e]; omega
theorem GoodF.wk {W' : Nat} (G : GoodF W cn f) (h1 : W ≤ W') (h2 : W' < 2 ^ 31) : GoodF W' cn f := by
  refine ⟨?_, ?_, ?_, ?_, ?_, ?_⟩
  · exact G.b
  · exact h2
  · exact by
      refine ⟨?_, G.g.pr, G.g.li⟩
      obtain ⟨t, q1, q2⟩ := G.g.we
      exact ⟨t, q1, by omega⟩
  · exact G.p
  · exact G.c
  · exact G.n
/-- an order in which only the numbers change -/
theorem GoodF.cnt {cn' : Cn} (G : GoodF W cn f) (hb : CnB cn') (hc : cn'.c = cn.c) (hw : cn.w ≤ cn'.w) (hl : cn.l ≤ cn'.l) (hk : cn.k ≤ cn'.k) (hf : ∀ i, i < 1504 ∨ (1624 ≤ i ∧ i < 1630) → f' i = f i) (hn : GN cn' f') : GoodF W cn' f' := by
  refine ⟨?_, ?_, ?_, ?_, ?_, ?_⟩
  · exact hb
  · exact G.W
  · exact G.g.cg (fun i h1 h2 => hf i (by omega)) (hf _ (by omega))
  · exact by
      have P := G.p.cg (f' := f') (fun i h1 h2 => hf i (by omega)) (hf _ (by omega))
      refine ⟨P.st, P.il, fun i hi k hk' hn => P.sh i hi k hk' (by omega), ?_⟩
      obtain ⟨j, e, hj⟩ := P.nl
      exact ⟨j, e, by omega⟩
  · exact by
      have C := G.c.cg (f' := f') G.b.2.1 (fun i h1 h2 => hf i (by omega))
      refine ⟨fun q hq => C.sp q (by omega), fun q hq => C.ne6 q (by omega), fun q hq h1 => ?_, fun q hq => C.it0 q (by omega), C.mp, fun q hq hn => C.new q hq (by omega)⟩
      obtain ⟨w, hw', e⟩ := C.it1 q (by omega) h1
      exact ⟨w, by omega, e⟩
  · exact hn
theorem does_good (G : GoodF W cn f) (hr : RowOK cn wh a bb c) (hB : BkGood bk (cnAdd cn wh)) (hW : W + 999 < 2 ^ 31) : GoodF (W + 999) (cnAdd cn wh) (doesF bk but cn wh a bb c f) := by
  have hcb := G.b.add hr
  have G9 : GoodF (W + 999) cn f := G.wk (by omega) hW
  unfold doesF
  by_cases e0 : wh = 0
  · subst e0
    obtain ⟨h1, h2, h3⟩ := hr.l0 rfl
    rw [if_pos rfl, cnAdd_o (by decide)]
    refine ⟨G.b, hW, ⟨?_, fun i hi => ?_, ?_⟩, G.p.cg (fun i h1 h2 => by rw [pk_un (by omega), pk_un (by omega)]) (by rw [pk_un (by omega), pk_un (by omega)]), G.c.cg G.b.2.1 (fun i h1 h2 => by rw [pk_un (by omega), pk_un (by omega)]), G.n.cg (fun i h1 h2 => by rw [pk_un (by omega), pk_un (by omega)])⟩
    · obtain ⟨t, q1, q2⟩ := G.g.we
      refine ⟨updN t a c, fun i hi => ?_, ?_⟩
      · unfold updN
        by_cases e : i = a
        · subst e; rw [pk_us, if_pos rfl]
        · rw [pk_un (by omega), pk_un (by omega), if_neg e]; exact q1 i hi
      · have := sumN_upd t (j := a) c 64 h1
        omega
    · rw [pk_un (by omega), pk_un (by omega)]; exact G.g.pr i hi
    · rw [pk_un (by omega), pk_un (by omega)]; exact G.g.li
  rw [if_neg e0]
  by_cases e1 : wh = 1
  · subst e1
    obtain ⟨h1, h2⟩ := hr.l1 rfl
    rw [if_pos rfl, cnAdd_o (by decide)]
    refine ⟨G9.b, hW, ⟨?_, fun i hi => ?_, ?_⟩, G9.p.cg (fun i h1 h2 => by rw [pk_un (by omega)]) (by rw [pk_un (by omega)]), G9.c.cg G.b.2.1 (fun i h1 h2 => by rw [pk_un (by omega)]), G9.n.cg (fun i h1 h2 => by rw [pk_un (by omega)])⟩
    · obtain ⟨t, q1, q2⟩ := G9.g.we
      exact ⟨t, fun i hi => by rw [pk_un (by omega)]; exact q1 i hi, q2⟩
    · rw [pk_un (by omega)]; exact G.g.pr i hi
    · by_cases e : a = 0
      · subst e; exact ⟨bb, h2, pk_us⟩
      · rw [pk_un (by omega)]; exact G.g.li
  rw [if_neg e1]
  by_cases e2 : wh = 2
  · subst e2
    rw [if_pos rfl]
    refine G9.cnt hcb rfl (Nat.le_refl _) (Nat.le_refl _) (Nat.le_refl _) (fun i hi => pk_un (by omega)) ⟨?_, ?_, ?_, ?_, ?_⟩
    · rw [pk_us, G.n.r, nI_1]; rfl
    · rw [pk_un (by omega)]; exact G.n.c
    · rw [pk_un (by omega)]; exact G.n.w
    · rw [pk_un (by omega)]; exact G.n.l
    · rw [pk_un (by omega)]; exact G.n.k
  rw [if_neg e2]
  by_cases e3 : wh = 3
  · subst e3
    rw [if_pos rfl]
    obtain ⟨ha, h8⟩ := hr.l3 rfl
    have hcc : (cnAdd cn 3).c = cn.c + 1 := rfl
    have hcw : (cnAdd cn 3).w = cn.w := rfl
    have hBa := hB.c a (by rw [hcc]; omega)
    have ho : ∀ i, i ≠ 960 + a → i ≠ 968 + a → i ≠ 984 + a → i ≠ 1631 → comesF bk f a i = f i := fun i h1 h2 h3 h4 => by
      unfold comesF
      rw [pk_un h4, pk_un h3, pk_un h2, pk_un h1]
    have hs : comesF bk f a (960 + a) = nI (bk.cH a) := by
      unfold comesF
      rw [pk_un (by omega), pk_un (by omega), pk_un (by omega), pk_us]
    have ht : comesF bk f a (984 + a) = -1 := by
      unfold comesF
      rw [pk_un (by omega), pk_us]
    have hd : comesF bk f a (976 + a) = 0 := by rw [ho _ (by omega) (by omega) (by omega) (by omega)]; exact (G.c.new a (by omega) (by omega)).1
    refine ⟨hcb, hW, G9.g.cg (fun i h1 h2 => ho i (by omega) (by omega) (by omega) (by omega)) (ho _ (by omega) (by omega) (by omega) (by omega)), G9.p.cg (fun i h1 h2 => ho i (by omega) (by omega) (by omega) (by omega)) (ho _ (by omega) (by omega) (by omega) (by omega)), ⟨fun q hq => ?_, fun q hq => ?_, fun q hq => ?_, fun q hq => ?_, fun q hq i hi => ?_, fun q hq hn => ?_⟩, ⟨?_, ?_, ?_, ?_, ?_⟩⟩
    · by_cases e : q = a
      · subst e; exact ⟨_, hBa.2.2.2.2.1, hs⟩
      · rw [ho _ (by omega) (by omega) (by omega) (by omega)]; exact G.c.sp q (by rw [hcc] at hq; omega)
    · by_cases e : q = a
      · subst e; rw [hd]; decide
      · rw [ho _ (by omega) (by omega) (by omega) (by omega)]; exact G.c.ne6 q (by rw [hcc] at hq; omega)
    · by_cases e : q = a
      · subst e; rw [hd]; intro z; exact absurd z (by decide)
      · rw [ho _ (by omega) (by omega) (by omega) (by omega), ho _ (by omega) (by omega) (by omega) (by omega)]; exact G.c.it1 q (by rw [hcc] at hq; omega)
    · by_cases e : q = a
      · subst e; intro _; exact ht
      · rw [ho _ (by omega) (by omega) (by omega) (by omega), ho _ (by omega) (by omega) (by omega) (by omega)]; exact G.c.it0 q (by rw [hcc] at hq; omega)
    · rw [ho _ (by omega) (by omega) (by omega) (by omega)]; exact G.c.mp q hq i hi
    · rw [hcc] at hn
      rw [ho _ (by omega) (by omega) (by omega) (by omega)]
      exact ⟨(G.c.new q hq (by omega)).1, fun i hi => by rw [ho _ (by omega) (by omega) (by omega) (by omega)]; exact (G.c.new q hq (by omega)).2 i hi⟩
    · rw [ho _ (by omega) (by omega) (by omega) (by omega)]; exact G.n.r
    · unfold comesF
      rw [pk_us, G.n.c, nI_1]; rfl
    · rw [ho _ (by omega) (by omega) (by omega) (by omega)]; exact G.n.w
    · rw [ho _ (by omega) (by omega) (by omega) (by omega)]; exact G.n.l
    · rw [ho _ (by omega) (by omega) (by omega) (by omega)]; exact G.n.k
  rw [if_neg e3]
  by_cases e4 : wh = 4
  · subst e4
    have ha := hr.l4 rfl
    have h8 := G.b.2.1
    rw [if_pos rfl, cnAdd_o (by decide)]
    unfold chargedF
    by_cases e : but 1 a ∨ ¬ f (976 + a) = 5
    · rw [pick_t e]; exact G9
    · rw [pick_f e]
      refine G9.putC (fun i hi => ?_) (G.c.one h8 ha (fun i a1 a2 a3 a4 a5 a6 => ?_) ?_ ?_ ?_ ?_)
      · rw [pk_un (by omega), pk_un (by omega)]
      · rw [pk_un (by omega), pk_un (by omega)]
      · rw [pk_un (by omega), pk_un (by omega)]; exact G.c.sp a ha
      · rw [pk_us]; decide
      · rw [pk_us]; exact fun z => absurd z (by decide)
      · intro _
        rw [pk_un (by omega), pk_un (by omega)]
        refine G.c.it0 a ha (fun z => e (Or.inr (by rw [z]; decide)))
  rw [if_neg e4]
  by_cases e5 : wh = 5
  · subst e5
    rw [if_pos rfl]
    obtain ⟨ha, h60⟩ := hr.l5 rfl
    have ho : ∀ i, i < 1504 ∨ 1624 ≤ i → i ≠ 1632 → opensF but f a i = f i := fun i h1 h2 => by
      unfold opensF
      rw [pk_un h2, pk_un (by omega), pk_un (by omega)]
    refine G9.cnt hcb rfl (Nat.le_succ _) (Nat.le_refl _) (Nat.le_refl _) (fun i hi => ho i (by omega) (by omega)) ⟨?_, ?_, ?_, ?_, ?_⟩
    · rw [ho _ (by omega) (by omega)]; exact G.n.r
    · rw [ho _ (by omega) (by omega)]; exact G.n.c
    · unfold opensF
      rw [pk_us, G.n.w, nI_1]; rfl
    · rw [ho _ (by omega) (by omega)]; exact G.n.l
    · rw [ho _ (by omega) (by omega)]; exact G.n.k
  rw [if_neg e5]
  by_cases e6 : wh = 6
  · subst e6
    rw [if_pos rfl]
    refine G9.cnt hcb rfl (Nat.le_refl _) (Nat.le_succ _) (Nat.le_refl _) (fun i hi => pk_un (by omega)) ⟨?_, ?_, ?_, ?_, ?_⟩
    · rw [pk_un (by omega)]; exact G.n.r
    · rw [pk_un (by omega)]; exact G.n.c
    · rw [pk_un (by omega)]; exact G.n.w
    · rw [pk_us, G.n.l, nI_1]; rfl
    · rw [pk_un (by omega)]; exact G.n.k
  rw [if_neg e6]
  by_cases e7 : wh = 7
  · subst e7
    rw [if_pos rfl]
    refine G9.cnt hcb rfl (Nat.le_refl _) (Nat.le_refl _) (Nat.le_succ _) (fun i hi => pk_un (by omega)) ⟨?_, ?_, ?_, ?_, ?_⟩
    · rw [pk_un (by omega)]; exact G.n.r
    · rw [pk_un (by omega)]; exact G.n.c
    · rw [pk_un (by omega)]; exact G.n.w
    · rw [pk_un (by omega)]; exact G.n.l
    · rw [pk_us, G.n.k, nI_1]; rfl
  rw [if_neg e7, cnAdd_o ⟨e2, e3, e5, e6, e7⟩]
  by_cases e8 : wh = 8
  · rw [if_pos e8]
    obtain ⟨ha, hk⟩ := hr.l8 e8
    by_cases e : f (192 + a) = 0
    · rw [if_pos e]
      refine G9.putP (fun i hi h5 => sowF_o (by omega) (by omega) (by omega) (by omega) (by omega) (by omega)) ⟨fun i hi => ?_, fun i hi => ?_, fun i hi k hk hn => ?_, ?_⟩
      · by_cases ei : i = a
        · subst ei
          right
          unfold sowF
          rw [pk_un (by omega), pk_un (by omega), pk_un (by omega), pk_un (by omega), pk_us]
        · rw [sowF_o (by omega) (by omega) (by omega) (by omega) (by omega) (by omega)]; exact G.p.st i hi
      · by_cases ei : i = a
        · subst ei
          left
          unfold sowF
          rw [pk_un (by omega), pk_un (by omega), pk_us]
        · rw [sowF_o (by omega) (by omega) (by omega) (by omega) (by omega) (by omega)]; exact G.p.il i hi
      · by_cases ei : i = a
        · subst ei
          unfold sowF
          rw [pk_un (by omega), pk_un (by omega), pk_un (by omega), pk_un (by omega), pk_un (by omega), put5_at hk]
          unfold sowS
          rw [if_neg (by omega)]
        · rw [sowF_o (by omega) (by omega) (by omega) (by omega) (by omega) (by omega)]; exact G.p.sh i hi k hk hn
      · rw [sowF_o (by omega) (by omega) (by omega) (by omega) (by omega) (by omega)]; exact G.p.nl
    · rw [if_neg e]; exact G9
  rw [if_neg e8]
  by_cases e9 : wh = 9
  · rw [if_pos e9]
    obtain ⟨ha, -⟩ := hr.l9 e9
    exact G9.putP (fun i hi h5 => pk_un (by omega)) (G.p.cg' (fun i hi => pk_un (by omega)) (fun i hi => pk_un (by omega)) (fun i h1 h2 => pk_un (by omega)) (pk_un (by omega)))
  rw [if_neg e9]
  by_cases e10 : wh = 10
  · rw [if_pos e10]
    exact seenF_good G9 (hr.l10 e10).1
  rw [if_neg e10]
  have e11 : wh = 11 := by have := hr.le; omega
  obtain ⟨ha, hb⟩ := hr.l11 e11
  by_cases e : f (192 + a) = 1
  · rw [if_pos e]
    refine G9.putP (fun i hi h5 => pk_un (by omega)) ⟨fun i hi => ?_, fun i hi => ?_, fun i hi k hk hn => ?_, ?_⟩
    · rw [pk_un (by omega)]; exact G.p.st i hi
    · by_cases ei : i = a
      · subst ei
        rw [pk_us]
        have : bb = 0 ∨ bb = 1 := by omega
        rcases this with h | h
        · subst h; exact Or.inl rfl
        · subst h; exact Or.inr rfl
      · rw [pk_un (by omega)]; exact G.p.il i hi
    · rw [pk_un (by omega)]; exact G.p.sh i hi k hk hn
    · rw [pk_un (by omega)]; exact G.p.nl
  · rw [if_neg e]; exact G9
end DO
