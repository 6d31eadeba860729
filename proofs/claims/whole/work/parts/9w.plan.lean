/-! ===== plan; the whole invariant ===== -/
def INV (M : am_I) (N : am_N) : Prop := INVW M N ∧ INVS M ∧ INVR M
def mN (v : Int) : Nat := if 999 ≤ v then 999 else if 1 < v then v.toNat else 1
section PN
variable {M M1 M2 : am_I} {N N1 N2 : am_N} {bk : Bk} {lg : Lg} {NN now : Nat} {wd : Nat → Nat} {t : Nat → Nat} {B r : Nat} {f9 : Int32} {PP : List SX} {SS : List (Nat × Nat)} {a1 a2 : Int32} {post : Int32 → am_I → am_N → Prop} {postL : Int64 → am_I → am_N → Prop} {full : Cn} {c k : Nat} {x : SX} {v : Int}
theorem INV.fx (h : INV M N) (F : FrX M N M1 N1) (hw : INVW M1 N1) : INV M1 N1 := ⟨hw, h.2.1.x1 (FrX.x1 F), h.2.2.x1 (FrX.x1 F)⟩
theorem INV.x1 (h : INV M N) (F : FrX1 M N M1 N1) (hw : INVW M1 N1) : INV M1 N1 := ⟨hw, h.2.1.x1 F, h.2.2.x1 F⟩
theorem INV.fy (h : INV M N) (F : FrY M N M1 N1) (hr : INVR M1) : INV M1 N1 := ⟨h.1.fy F, h.2.1.fy F, hr⟩
theorem INV.fft (h : INV M N) (F : FrT M N M1 N1) (hs : INVS M1) : INV M1 N1 := ⟨h.1.ft F, hs, h.2.2.frt F⟩
theorem mN_b : 1 ≤ mN v ∧ mN v ≤ 999 := by
  unfold mN
  by_cases h1 : 999 ≤ v
  · rw [if_pos h1]; exact ⟨by decide, by decide⟩
  · rw [if_neg h1]
    by_cases h2 : 1 < v
    · rw [if_pos h2]; exact ⟨by omega, by omega⟩
    · rw [if_neg h2]; exact ⟨by decide, by decide⟩
theorem iI_lt {a b : Int} (ha : sml a) (hb : sml b) : iI a < iI b ↔ a < b := by rw [Int32.lt_iff_toInt_lt, iI_t ha, iI_t hb]
theorem s999 : sml 999 := ⟨by decide, by decide⟩
theorem s1 : sml 1 := ⟨by decide, by decide⟩
theorem c_clamp (hv : sml v) (h : post (nI (mN v)) M N) : w_J9_min_7cf53 999 (iI v) M N (fun z M N => w_J9_max_7cf53 1 z M N post) := by
  have e9 : (999 : Int32) = iI 999 := by decide
  have e1 : (1 : Int32) = iI 1 := by decide
  unfold w_J9_min_7cf53 w_J9_max_7cf53
  unfold mN at h
  refine ⟨fun z => ⟨fun z2 => ?_, fun z2 => ?_⟩, fun z => ⟨fun z2 => ?_, fun z2 => absurd (by decide) z2⟩⟩
  · rw [e9, iI_lt hv s999] at z
    rw [e1, iI_lt s1 hv] at z2
    rw [if_neg (by omega), if_pos z2] at h
    have : iI v = nI v.toNat := by
      rw [← iI_n]; congr 1; omega
    rw [this]; exact h
  · rw [e9, iI_lt hv s999] at z
    rw [e1, iI_lt s1 hv] at z2
    rw [if_neg (by omega), if_neg z2] at h
    exact h
  · rw [e9, iI_lt hv s999] at z
    rw [if_pos (by omega)] at h
    exact h
theorem r_clamp (hv : sml v) (h : postL (iL (mN v : Int)) M N) : w_J9_min_f86c9 999 (iL v) M N (fun z M N => w_J9_max_f86c9 1 z M N postL) := by
  have e9 : (999 : Int64) = iL 999 := by decide
  have e1 : (1 : Int64) = iL 1 := by decide
  unfold w_J9_min_f86c9 w_J9_max_f86c9
  unfold mN at h
  refine ⟨fun z => ⟨fun z2 => ?_, fun z2 => ?_⟩, fun z => ⟨fun z2 => ?_, fun z2 => absurd (by decide) z2⟩⟩
  · rw [e9, iL_lt hv.big s999.big] at z
    rw [e1, iL_lt s1.big hv.big] at z2
    rw [if_neg (by omega), if_pos z2] at h
    have : ((v.toNat : Nat) : Int) = v := by omega
    rw [this] at h; exact h
  · rw [e9, iL_lt hv.big s999.big] at z
    rw [e1, iL_lt s1.big hv.big] at z2
    rw [if_neg (by omega), if_neg z2] at h
    exact h
  · rw [e9, iL_lt hv.big s999.big] at z
    rw [if_pos (by omega)] at h
    exact h
theorem w_in {m : Nat} (hk : k ≤ 3) (hc : c < 64) (hm : (k ≠ 2 ∧ m = 0) ∨ (k = 2 ∧ 1 ≤ m ∧ m ≤ 999)) (h : w_X12_work_p39 post (nI k) (nI c) (nI m) M N) : w_X12_work (nI k) (nI c) (nI m) M N post := by
  have y1 : 0 ≤ nI k ∧ nI k ≤ 3 := ⟨nI_pos' (by omega), nI_le (b := 3) hk (by omega)⟩
  have y2 : 0 ≤ nI c ∧ nI c ≤ 63 := ⟨nI_pos' (by omega), nI_le (b := 63) (by omega) (by omega)⟩
  have q2 : nI k = (2 : Int32) ↔ k = 2 := nI_eq (b := 2) (by omega) (by omega)
  unfold w_X12_work
  refine eq_X12_isIn.mpr ?_
  rw [am_bt y1]
  refine ⟨fun z => absurd z (by decide), fun _ => eq_X12_isCell.mpr ?_⟩
  rw [am_bt y2]
  refine ⟨fun z => absurd z (by decide), fun _ => ⟨fun z => ⟨fun z2 => ?_, fun _ => h⟩, fun z => eq_X12_isIn.mpr ?_⟩⟩
  · have : m = 0 := by
      rcases hm with ⟨_, e⟩ | ⟨e, _⟩
      · exact e
      · exact absurd (q2.mpr e) z
    rw [this] at z2
    exact absurd rfl z2
  · have e := q2.mp z
    have y3 : 1 ≤ nI m ∧ nI m ≤ 999 := ⟨nI_le (a := 1) (by omega) (by omega), nI_le (b := 999) (by omega) (by omega)⟩
    rw [am_bt y3]
    exact ⟨fun z => absurd z (by decide), fun _ => h⟩
def plK (x : SX) : Nat := if x.1 = 0 then 1 else if x.1 = 1 then 0 else 2
def plM (fa : Nat → Int) (x : SX) : Nat := if x.1 = 3 then mN (vmI fa x) else 0
theorem pl_ok {fa : Nat → Int} (h4 : x.1 < 4) (h2 : ¬ x.1 = 2) : plK x ≤ 3 ∧ plM fa x ≤ 999 ∧ ((plK x ≠ 2 ∧ plM fa x = 0) ∨ (plK x = 2 ∧ 1 ≤ plM fa x ∧ plM fa x ≤ 999)) := by
  have hb := mN_b (v := vmI fa x)
  unfold plK plM
  by_cases e0 : x.1 = 0
  · rw [if_pos e0, if_neg (by omega)]; omega
  · rw [if_neg e0]
    by_cases e1 : x.1 = 1
    · rw [if_pos e1, if_neg (by omega)]; omega
    · rw [if_neg e1, if_pos (by omega)]; omega
theorem r_planS (P : IP bk lg NN now wd) (R : IRf bk lg NN now wd M N) (D : WdOK M full wd) (L : IRl t B r f9 PP SS M) (hc : c < 64) (hs : (rep bk noBut lg now NN).1 (192 + c) = 1) (hsel : sel (fcI bk lg NN now wd c) PP 0 = some (k, x)) (h2 : x.1 = 2 → ∀ N1, FrN2 N N1 → post (-1) M N1) (h1 : ¬ x.1 = 2 → ∀ N1, FrN2 N N1 → w_X12_work_p39 post (nI (plK x)) (nI c) (nI (plM (fcI bk lg NN now wd c) x)) M N1) : w_X12_plan (nI c) M N post := by
  unfold w_X12_plan
  have hr8 := L.r8
  refine r_toDoW P R D L (fun z => absurd ⟨c, hc, rfl, hs⟩ z) (fun c' hc' ec hs' => ?_)
  have e : c' = c := (nI_eq (by omega) (by omega)).mp ec.symm
  subst e
  refine ⟨fun z => (by rw [hsel] at z; exact nomatch z), fun k' x' hsel' hr N1 G1 hW => ?_⟩
  rw [hsel] at hsel'
  have ek : k = k' := congrArg Prod.fst (Option.some.inj hsel')
  have ex : x = x' := congrArg Prod.snd (Option.some.inj hsel')
  subst ek
  subst ex
  obtain ⟨k24, K, P0, P1, b1, b0, b2, b3, b4⟩ := row_at L hr hsel
  have hx4 := K.s
  have vk : vp_in (nI (24 * (r - 1) + k)) 216 := vp_in_nI (by omega) (by omega)
  have q3 : nI x.1 = (3 : Int32) ↔ x.1 = 3 := nI_eq (b := 3) (by omega) (by omega)
  have q2 : nI x.1 = (2 : Int32) ↔ x.1 = 2 := nI_eq (b := 2) (by omega) (by omega)
  have q0 : nI x.1 = (0 : Int32) ↔ x.1 = 0 := nI_eq (b := 0) (by omega) (by omega)
  refine ⟨fun z => absurd z (nm1 (by omega)), fun _ => ⟨vk, ?_⟩⟩
  rw [nI_clamp (show 24 * (r - 1) + k < 2 ^ 31 by omega), b2, q2, q3, q0]
  refine ⟨fun n2 => ⟨vk, fun z => ⟨vk, vk, ?_⟩, fun z => ⟨vk, fun z0 => ?_, fun z0 => ?_⟩⟩, fun z => h2 z N1 G1⟩
  · refine r_much (fc_sml P hc) K z L.sp b1 b0 b3 b4 hW (fun N2 G2 => ?_)
    have sv : sml (vmI (fcI bk lg NN now wd c') x) := by
      obtain ⟨_, _, _, _, _, _, sv⟩ := st_vals (fc_sml P hc) K
      exact sv
    refine r_clamp sv ?_
    show w_X12_work 2 (nI c') (iL (mN (vmI (fcI bk lg NN now wd c') x) : Int)).toInt32 M N2 _
    rw [iL_i, iI_n]
    have hb := mN_b (v := vmI (fcI bk lg NN now wd c') x)
    refine w_in (k := 2) (by decide) hc (Or.inr ⟨rfl, hb⟩) ?_
    have hh := h1 n2 N2 (G1.tr G2)
    have e1 : plK x = 2 := by unfold plK; rw [if_neg (by omega), if_neg (by omega)]
    have e2 : plM (fcI bk lg NN now wd c') x = mN (vmI (fcI bk lg NN now wd c') x) := by unfold plM; rw [if_pos z]
    rw [e1, e2] at hh
    exact hh
  · unfold w_X12_plan_p48
    have hh := h1 n2 N1 G1
    have e1 : plK x = 0 := by unfold plK; rw [if_neg z0, if_pos (by omega)]
    have e2 : plM (fcI bk lg NN now wd c') x = 0 := by unfold plM; rw [if_neg z]
    rw [e1, e2] at hh
    exact w_in (k := 0) (m := 0) (by decide) hc (Or.inl ⟨by decide, rfl⟩) hh
  · unfold w_X12_plan_p48
    have hh := h1 n2 N1 G1
    have e1 : plK x = 1 := by unfold plK; rw [if_pos z0]
    have e2 : plM (fcI bk lg NN now wd c') x = 0 := by unfold plM; rw [if_neg z]
    rw [e1, e2] at hh
    exact w_in (k := 1) (m := 0) (by decide) hc (Or.inl ⟨by decide, rfl⟩) hh
theorem IRl.ofC (L : IRl t B r f9 PP SS M) (F : FrC M N M1 N1) : IRl t B r f9 PP SS M1 := by
  have g0 : ∀ i, (i < 2 ∨ 6 < i) → M1 (0, 0, i) = M (0, 0, i) := fun i hi => (F (0, 0, i) (Or.inr (Or.inl ⟨rfl, hi⟩))).1
  have g3 : ∀ i, M1 (3, 0, i) = M (3, 0, i) := fun i => (F (3, 0, i) (Or.inl rfl)).1
  exact L.cg (g0 0 (by decide)) (g0 7 (by decide)) (g0 8 (by decide)) (fun j _ => by rw [g0 12 (by decide)]) (g0 13 (by decide)) (fun i _ _ => g3 i) (fun j _ => by rw [g3])
theorem IRl.ofR (L : IRl t B r f9 PP SS M) (F : FrR M N M1 N1) : IRl t B r f9 PP SS M1 := by
  have g0 : ∀ i, M1 (0, 0, i) = M (0, 0, i) := fun i => (F.1 (0, 0, i) (Or.inl (fun w => absurd w (show ¬ (0 : Nat) = 3 by decide)))).1
  exact L.cg (g0 0) (g0 7) (g0 8) (fun j _ => by rw [g0 12]) (g0 13) (fun i h1 _ => (F.1 (3, 0, i) (Or.inr ⟨rfl, show 32 ≤ i by omega⟩)).1) (fun j hj => F.2 j (by omega))
theorem INVS.ofC (h : INVS M) (F : FrC M N M1 N1) : INVS M1 := h.cg (fun i => (F (2, 6, i) (Or.inr (Or.inr ⟨rfl, rfl⟩))).1) (F (3, 0, 32) (Or.inl rfl)).1 (F (3, 0, 33) (Or.inl rfl)).1 (by rw [(F (3, 0, 0) (Or.inl rfl)).1])
theorem INVS.ofR (h : INVS M) (F : FrR M N M1 N1) : INVS M1 := h.cg (fun i => (F.1 (2, 6, i) (Or.inl (fun w => absurd w (show ¬ (2 : Nat) = 3 by decide)))).1) (F.1 (3, 0, 32) (Or.inr ⟨rfl, by decide⟩)).1 (F.1 (3, 0, 33) (Or.inr ⟨rfl, by decide⟩)).1 (F.2 42 (by decide))
theorem INVS.ff (h : INVS M) (F : FrF M M1) : INVS M1 := h.cg (fun i => F.1 _ (by simp) (by simp) (by simp)) (F.1 _ (by simp) (by simp) (by simp)) (F.1 _ (by simp) (by simp) (by simp)) (by rw [F.1 _ (by simp) (by simp) (by simp)])
theorem call_plan (h : INV M N) : w_X11_plan a1 M N (fun r M1 N1 => w_X12_plan a1 M1 N1 (fun r2 M2 N2 => r = r2 ∧ INV M2 N2)) := by
  have h00 := h
  obtain ⟨hw, hS, hr⟩ := h
  obtain ⟨bk, lg, NN, now, wd, P, I, R⟩ := hw
  obtain ⟨t, B, r, f9, PP, SS, L⟩ := hr
  unfold w_X11_plan
  refine c_finds P I (P.wdok I R) L (fun hno => ⟨fun z => absurd rfl z, fun _ => ?_⟩) (fun c hc ec hs => ⟨fun hsel M1 F1 => ⟨fun z => absurd rfl z, fun _ => ?_⟩, fun k x hsel M1 F1 d5 d6 d7 => ⟨fun _ => ?_, fun z => absurd z (by decide)⟩⟩)
  · show w_X12_plan a1 M N _
    unfold w_X12_plan
    exact r_toDoW P R (P.wdok I R) L (fun _ => ⟨fun _ => ⟨rfl, h00⟩, fun z => absurd rfl z⟩) (fun c hc ec hs => absurd ⟨c, hc, ec, hs⟩ hno)
  · subst ec
    have R1 := R.ff F1
    have I1 := I.ff F1
    have L1 := L.ff F1
    show w_X12_plan (nI c) M1 N _
    unfold w_X12_plan
    refine r_toDoW P R1 (P.wdok I1 R1) L1 (fun z => absurd ⟨c, hc, rfl, hs⟩ z) (fun c' hc' ec' hs' => ?_)
    have e : c' = c := (nI_eq (by omega) (by omega)).mp ec'.symm
    subst e
    exact ⟨fun _ N1 G1 => ⟨fun _ => ⟨rfl, h00.fy (FrY.of F1 G1) ⟨t, B, r, f9, PP, SS, L1⟩⟩, fun z => absurd rfl z⟩, fun k x z => (by rw [hsel] at z; exact nomatch z)⟩
  · subst ec
    have R1 := R.ff F1
    have I1 := I.ff F1
    have L1 := L.ff F1
    have S1 := hS.ff F1
    have hx4 : x.1 < 4 := (L.ok x (sel_sp PP 0 k x hsel).2.2.2).s
    have K : okS x := L.ok x (sel_sp PP 0 k x hsel).2.2.2
    have q3 : nI x.1 = (3 : Int32) ↔ x.1 = 3 := nI_eq (b := 3) (by omega) (by omega)
    have q2 : nI x.1 = (2 : Int32) ↔ x.1 = 2 := nI_eq (b := 2) (by omega) (by omega)
    have q1 : nI x.1 = (1 : Int32) ↔ x.1 = 1 := nI_eq (b := 1) (by omega) (by omega)
    have q0 : nI x.1 = (0 : Int32) ↔ x.1 = 0 := nI_eq (b := 0) (by omega) (by omega)
    have main : ¬ x.1 = 2 → w_X11_addWork (nI (plK x)) (nI c) (nI (plM (fcI bk lg NN now wd c) x)) M1 N (fun r M1 N1 => w_X12_plan (nI c) M1 N1 (fun r2 M2 N2 => r = r2 ∧ INV M2 N2)) := by
      intro n2
      obtain ⟨k3, m9, _⟩ := pl_ok (fa := fcI bk lg NN now wd c) hx4 n2
      refine c_addWork P I1 k3 hc m9 (fun hr hN M2 N2 F2 P2 I2 => ?_) (fun z => ?_)
      · have R2 := R1.ofC F2
        have L2 := L1.ofC F2
        refine r_planS (full := cnL (addL lg NN now 5 (cnL lg NN).w 0 0) (NN + 1)) P R2 ⟨I2.D, R2.D, P2.z, P2.b⟩ L2 hc hs hsel (fun z => absurd z n2) (fun _ N3 G3 => ?_)
        refine r_addWork P (R2.fn G3) k3 hc m9 (fun _ _ M4 N4 F4 I4 => ⟨rfl, ⟨_, _, _, now, wd, P2, (I2.fn G3).ofR F4, I4⟩, (S1.ofC F2).ofR F4, t, B, r, f9, PP, SS, L2.ofR F4⟩) (fun z => absurd ⟨hr, hN⟩ z)
      · refine r_planS P R1 (P.wdok I1 R1) L1 hc hs hsel (fun z => absurd z n2) (fun _ N3 G3 => ?_)
        exact r_addWork P (R1.fn G3) k3 hc m9 (fun hr hN => absurd ⟨hr, hN⟩ z) (fun _ => ⟨rfl, h00.fy (FrY.of F1 G3) ⟨t, B, r, f9, PP, SS, L1⟩⟩)
    rw [d6, d7, q0, q1, q2, q3]
    refine ⟨fun e => ?_, fun e => ?_, fun e => ?_, fun e => ?_, fun n0 n1 n2 n3 => by omega⟩
    · have hh := main (by omega)
      have e1 : plK x = 1 := by unfold plK; rw [if_pos e]
      have e2 : plM (fcI bk lg NN now wd c) x = 0 := by unfold plM; rw [if_neg (by omega)]
      rw [e1, e2] at hh
      exact hh
    · have hh := main (by omega)
      have e1 : plK x = 0 := by unfold plK; rw [if_neg (by omega), if_pos e]
      have e2 : plM (fcI bk lg NN now wd c) x = 0 := by unfold plM; rw [if_neg (by omega)]
      rw [e1, e2] at hh
      exact hh
    · exact r_planS P R1 (P.wdok I1 R1) L1 hc hs hsel (fun _ N1 G1 => ⟨rfl, h00.fy (FrY.of F1 G1) ⟨t, B, r, f9, PP, SS, L1⟩⟩) (fun z => absurd e z)
    · have hh := main (by omega)
      have e1 : plK x = 2 := by unfold plK; rw [if_neg (by omega), if_neg (by omega)]
      have e2 : plM (fcI bk lg NN now wd c) x = mN (vmI (fcI bk lg NN now wd c) x) := by unfold plM; rw [if_pos e]
      rw [e1, e2] at hh
      have sv : sml (vmI (fcI bk lg NN now wd c) x) := by
        obtain ⟨_, _, _, _, _, _, sv⟩ := st_vals (fc_sml P hc) K
        exact sv
      exact c_clamp sv hh
end PN
