/-! ===== act, plan ===== -/
section AP
variable {M M1 M2 : am_I} {N N1 N2 : am_N} {bk : Bk} {lg : Lg} {NN now : Nat} {wd : Nat → Nat} {t : Nat → Nat} {B r : Nat} {f9 : Int32} {PP : List SX} {SS : List (Nat × Nat)} {a1 a2 : Int32} {post : Int32 → am_I → am_N → Prop} {full : Cn} {c k : Nat} {x : SX}
theorem FrY.of (F : FrF M M1) (G : FrN2 N N1) : FrY M N M1 N1 := by
  refine ⟨fun c q1 q2 => ⟨F.1 c (fun w => q1 ?_) (fun w => q1 ?_) (fun w => q1 ?_), G c (fun w => q2 ?_) (fun w => q2 ?_)⟩, fun j _ => by rw [F.1 _ (by simp) (by simp) (by simp)], G _ (by simp) (by simp)⟩
  · rw [w]; exact ⟨rfl, Or.inr (by decide)⟩
  · rw [w]; exact ⟨rfl, Or.inr (by decide)⟩
  · rw [w]; exact ⟨rfl, Or.inr (by decide)⟩
  · rw [w]; exact ⟨rfl, Or.inr (by decide)⟩
  · rw [w]; exact ⟨rfl, Or.inr (by decide)⟩
theorem FrN2.ofN (h : FrN N N1) : FrN2 N N1 := fun c q _ => h c q
theorem FrN2.tr (h1 : FrN2 N N1) (h2 : FrN2 N1 N2) : FrN2 N N2 := fun c q1 q2 => (h2 c q1 q2).trans (h1 c q1 q2)
theorem FrN2.rf : FrN2 N N := fun _ _ _ => rfl
theorem IRf.ff (R : IRf bk lg NN now wd M N) (F : FrF M M1) : IRf bk lg NN now wd M1 N := R.cg (fun i => F.1 _ (by simp) (by simp) (by simp)) (fun i => rfl)
theorem IRf.fn (R : IRf bk lg NN now wd M N) (G : FrN2 N N1) : IRf bk lg NN now wd M N1 := R.cg2 (fun _ _ _ => rfl) (fun _ _ => rfl) (G _ (by simp) (by simp))
theorem ICl.ff (I : ICl bk lg NN now wd M N) (F : FrF M M1) : ICl bk lg NN now wd M1 N := I.cg6 (fun x i => ⟨F.1 _ (by simp) (by simp) (by simp), rfl⟩) (fun t i _ => F.1 _ (by simp) (by simp) (by simp))
theorem ICl.fn (I : ICl bk lg NN now wd M N) (G : FrN2 N N1) : ICl bk lg NN now wd M N1 := I.cg6 (fun x i => ⟨rfl, G _ (by simp) (by simp)⟩) (fun t i _ => rfl)
theorem nm1 {a : Nat} (h : a < 2 ^ 31) : ¬ nI a = -1 := fun z => absurd (show (0 : Int32) ≤ -1 by rw [← z]; exact nI_le (a := 0) (by omega) h) (by decide)
/-- the rows of a statement that was found -/
theorem row_at (L : IRl t B r f9 PP SS M) (hr : 0 < r) {fa : Nat → Int} (hs : sel fa PP 0 = some (k, x)) : k < 24 ∧ okS x ∧ ∃ P0 P1, SS = P0 ++ (stS x ++ P1) ∧ P0.length + (stS x).length ≤ 6300 ∧ M (3, 0, 35) (24 * (r - 1) + k) = nI x.1 ∧ M (3, 0, 36) (24 * (r - 1) + k) = nI P0.length ∧ M (3, 0, 37) (24 * (r - 1) + k) = nI (P0.length + x.2.1.length) := by
  obtain ⟨_, h2, h3, h4⟩ := sel_sp PP 0 k x hs
  have hpl := L.pl
  have hsl := L.sl
  have hr8 := L.r8
  rw [Nat.sub_zero] at h3
  obtain ⟨P0, P1, b1, b2, b3, b4, _⟩ := (L.pg hr).1 k (by omega)
  rw [h3] at b1 b2 b4
  refine ⟨by omega, L.ok x h4, P0, P1, b1, ?_, b2, b3, b4⟩
  have := congrArg List.length b1
  rw [List.length_append, List.length_append] at this
  omega
theorem r_much {fa : Nat → Int} {b e : Int32} {postL : Int64 → am_I → am_N → Prop} {P0 P1 : List (Nat × Nat)} (hf : ∀ a, a < 8 → sml (fa a)) (K : okS x) (h3 : x.1 = 3) (P : RPf SS M) (es : SS = P0 ++ (stS x ++ P1)) (hl : P0.length + (stS x).length ≤ 6300) (eb : b = nI P0.length) (ee : e = nI (P0.length + x.2.1.length)) (hW : ∀ a, a < 8 → N (3, 0, 42) a = iL (fa a)) (h : ∀ N1, FrN2 N N1 → postL (iL (vmI fa x)) M N1) : w_X12_runs b e M N postL := by
  subst eb
  subst ee
  have lst : (stS x).length = x.2.1.length + x.2.2.length := by unfold stS; rw [List.length_append]
  have es' : SS = P0 ++ (x.2.1 ++ (x.2.2 ++ P1)) := by rw [es]; unfold stS; rw [List.append_assoc]
  refine r_runs (E := x.2.1) hf (K.g h3 [] 60 (by show 0 + 21 ≤ 60; omega)) hW (by omega) (fun m hm => P.at es' hm) (fun N1 F1 => ?_)
  have := h N1 (FrN2.ofN F1)
  unfold vmI at this
  rw [if_pos h3] at this
  exact this
theorem r_actS (P : IP bk lg NN now wd) (R : IRf bk lg NN now wd M N) (D : WdOK M full wd) (L : IRl t B r f9 PP SS M) (hc : c < 64) (hs : (rep bk noBut lg now NN).1 (192 + c) = 1) (hsel : sel (fcI bk lg NN now wd c) PP 0 = some (k, x)) (h0 : a2 = 0 → ∀ N1, FrN2 N N1 → post (nI k) M N1) (h1 : a2 = 1 → ∀ N1, FrN2 N N1 → post (nI x.1) M N1) (h2 : a2 = 2 → x.1 = 3 → ∀ N1, FrN2 N N1 → post (iI (vmI (fcI bk lg NN now wd c) x)) M N1) (h2' : a2 = 2 → ¬ x.1 = 3 → ∀ N1, FrN2 N N1 → post 0 M N1) (h9 : ¬ a2 = 0 → ¬ a2 = 1 → ¬ a2 = 2 → ∀ N1, FrN2 N N1 → post (-2000000000) M N1) : w_X12_act (nI c) a2 M N post := by
  unfold w_X12_act
  have hr8 := L.r8
  refine r_toDoW P R D L (fun z => absurd ⟨c, hc, rfl, hs⟩ z) (fun c' hc' ec hs' => ?_)
  have e : c' = c := (nI_eq (by omega) (by omega)).mp ec.symm
  subst e
  refine ⟨fun z => (by rw [hsel] at z; exact nomatch z), fun k' x' hsel' hr N1 G1 hW => ?_⟩
  rw [hsel] at hsel'
  have ek : k = k' := congrArg Prod.fst (Option.some.inj hsel')
  have ex : x = x' := congrArg Prod.snd (Option.some.inj hsel')
  subst ek
  subst ex
  obtain ⟨k24, K, P0, P1, b1, b0, b2, b3, b4⟩ := row_at L hr hsel
  have hx4 := K.s
  have vk : vp_in (nI (24 * (r - 1) + k)) 216 := vp_in_nI (by omega) (by omega)
  have q3 : nI x.1 = (3 : Int32) ↔ x.1 = 3 := nI_eq (b := 3) (by omega) (by omega)
  refine ⟨fun _ => ⟨fun n0 => ⟨fun n1 => ⟨fun n2 => h9 n0 n1 n2 N1 G1, fun e2 => ⟨vk, ?_⟩⟩, fun e1 => ⟨vk, ?_⟩⟩, fun e0 => ?_⟩, fun z => absurd z (nm1 (by omega))⟩
  · rw [nI_clamp (show 24 * (r - 1) + k < 2 ^ 31 by omega), b2, q3]
    refine ⟨fun z => h2' e2 z N1 G1, fun z => ⟨vk, vk, ?_⟩⟩
    refine r_much (fc_sml P hc) K z L.sp b1 b0 b3 b4 hW (fun N2 G2 => ?_)
    rw [iL_i]
    exact h2 e2 z N2 (G1.tr G2)
  · rw [nI_clamp (show 24 * (r - 1) + k < 2 ^ 31 by omega), b2]
    exact h1 e1 N1 G1
  · have e24 : am_rem (nI (24 * (r - 1) + k)) 24 = nI k := by
      have := pk_rem (a := 24 * (r - 1) + k) (d := 24) (by omega) (by omega) (by omega)
      rw [show (24 * (r - 1) + k) % 24 = k by omega] at this
      exact this
    rw [e24]
    exact h0 e0 N1 G1
theorem call_act (h : INVW M N) (hr : INVR M) : w_X11_act a1 a2 M N (fun r M1 N1 => w_X12_act a1 a2 M1 N1 (fun r2 M2 N2 => r = r2 ∧ FrY M N M2 N2 ∧ INVR M2)) := by
  obtain ⟨bk, lg, NN, now, wd, P, I, R⟩ := h
  obtain ⟨t, B, r, f9, PP, SS, L⟩ := hr
  unfold w_X11_act
  refine c_finds P I (P.wdok I R) L (fun hno => ⟨fun z => absurd rfl z, fun _ => ?_⟩) (fun c hc ec hs => ⟨fun hsel M1 F1 => ⟨fun z => absurd rfl z, fun _ => ?_⟩, fun k x hsel M1 F1 d5 d6 d7 => ⟨fun _ => ?_, fun z => absurd z (by decide)⟩⟩)
  · show w_X12_act a1 a2 M N _
    unfold w_X12_act
    exact r_toDoW P R (P.wdok I R) L (fun _ => ⟨fun z => absurd rfl z, fun _ => ⟨rfl, FrY.rf, t, B, r, f9, PP, SS, L⟩⟩) (fun c hc ec hs => absurd ⟨c, hc, ec, hs⟩ hno)
  · subst ec
    have R1 := R.ff F1
    have I1 := I.ff F1
    have L1 := L.ff F1
    show w_X12_act (nI c) a2 M1 N _
    unfold w_X12_act
    refine r_toDoW P R1 (P.wdok I1 R1) L1 (fun z => absurd ⟨c, hc, rfl, hs⟩ z) (fun c' hc' ec' hs' => ?_)
    have e : c' = c := (nI_eq (by omega) (by omega)).mp ec'.symm
    subst e
    exact ⟨fun _ N1 G1 => ⟨fun z => absurd rfl z, fun _ => ⟨rfl, FrY.of F1 G1, t, B, r, f9, PP, SS, L1⟩⟩, fun k x z => (by rw [hsel] at z; exact nomatch z)⟩
  · subst ec
    have R1 := R.ff F1
    have I1 := I.ff F1
    have L1 := L.ff F1
    have fin : ∀ v : Int32, ∀ v2 : Int32, v = v2 → ∀ N1, FrN2 N N1 → v = v2 ∧ FrY M N M1 N1 ∧ INVR M1 := fun v v2 e N1 G1 => ⟨e, FrY.of F1 G1, t, B, r, f9, PP, SS, L1⟩
    have hx4 : x.1 < 4 := (L.ok x (sel_sp PP 0 k x hsel).2.2.2).s
    have q3 : nI x.1 = (3 : Int32) ↔ x.1 = 3 := nI_eq (b := 3) (by omega) (by omega)
    rw [d5, d6, d7, q3]
    refine ⟨fun e0 => ?_, fun e1 => ?_, fun e2 => ⟨fun z => ?_, fun z => ?_⟩, fun n0 n1 n2 => ?_⟩
    · exact r_actS P R1 (P.wdok I1 R1) L1 hc hs hsel (fun _ => fin _ _ rfl) (fun e => absurd (e0.symm.trans e) (by decide)) (fun e => absurd (e0.symm.trans e) (by decide)) (fun e => absurd (e0.symm.trans e) (by decide)) (fun z => absurd e0 z)
    · exact r_actS P R1 (P.wdok I1 R1) L1 hc hs hsel (fun e => absurd (e1.symm.trans e) (by decide)) (fun _ => fin _ _ rfl) (fun e => absurd (e1.symm.trans e) (by decide)) (fun e => absurd (e1.symm.trans e) (by decide)) (fun _ z => absurd e1 z)
    · exact r_actS P R1 (P.wdok I1 R1) L1 hc hs hsel (fun e => absurd (e2.symm.trans e) (by decide)) (fun e => absurd (e2.symm.trans e) (by decide)) (fun _ w => absurd w z) (fun _ _ => fin _ _ rfl) (fun _ _ z => absurd e2 z)
    · exact r_actS P R1 (P.wdok I1 R1) L1 hc hs hsel (fun e => absurd (e2.symm.trans e) (by decide)) (fun e => absurd (e2.symm.trans e) (by decide)) (fun _ _ => fin _ _ rfl) (fun _ w => absurd z w) (fun _ _ z => absurd e2 z)
    · exact r_actS P R1 (P.wdok I1 R1) L1 hc hs hsel (fun e => absurd e n0) (fun e => absurd e n1) (fun e => absurd e n2) (fun e => absurd e n2) (fun _ _ _ => fin _ _ rfl)
end AP
