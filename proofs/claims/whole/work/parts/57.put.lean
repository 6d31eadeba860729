/-! ===== the relation, group by group ===== -/
section PG
variable {M M' : am_I} {N N' : am_N} {b : Nat} {bk : Bk} {cn full : Cn} {but : Nat → Nat → Prop} {f f' : Nat → Int32} {fe lo : Int64} {W q c w : Nat} {x : Int32}
theorem RelW.putG (hcb : CnB cn) (R : RelW b cn but M N f fe lo) (hM : ∀ i, i < 2 ∨ 5 < i → M' (1, b, i) = M (1, b, i)) (hf : ∀ i, 192 ≤ i → f' i = f i) (h : RG (M' (1, b, 2)) (M' (1, b, 3)) (M' (1, b, 4)) f') : RelW b cn but M' N f' fe lo := by
  refine ⟨?_, ?_, ?_, ?_, ?_, ?_, ?_⟩
  · exact h
  · exact by
      rw [hM 6 (by omega), hM 7 (by omega), hM 8 (by omega), hM 9 (by omega), hM 10 (by omega), hM 11 (by omega), hM 12 (by omega)]
      exact R.p.cg (fun i h1 h2 => hf i (by omega)) (hf _ (by omega))
  · exact by
      rw [hM 15 (by omega), hM 16 (by omega), hM 17 (by omega), hM 18 (by omega)]
      exact R.c.cg hcb.2.1 (fun i h1 h2 => hf i (by omega))
  · exact by
      rw [hM 20 (by omega), hM 21 (by omega)]
      exact R.k.cg hcb.2.2.1 (fun i h1 h2 => hf i (by omega))
  · exact by
      rw [hM 22 (by omega), hM 0 (by omega)]
      exact R.s.cg (fun i h1 h2 _ => hf i (by omega))
  · exact R.fe
  · exact R.lo
theorem RelW.putP (hcb : CnB cn) (R : RelW b cn but M N f fe lo) (hM : ∀ i, i < 6 ∨ 13 < i → M' (1, b, i) = M (1, b, i)) (hN : ∀ i, i = 1 ∨ i = 19 → N' (1, b, i) = N (1, b, i)) (hf : ∀ i, i < 192 ∨ 960 ≤ i → i ≠ 1625 → f' i = f i) (h : RP (N' (1, b, 6) 8) (N' (1, b, 6) 9) (M' (1, b, 7)) (M' (1, b, 8)) (M' (1, b, 9)) (M' (1, b, 10)) (M' (1, b, 11)) (M' (1, b, 12)) (M' (1, b, 6) 10) f') : RelW b cn but M' N' f' fe lo := by
  refine ⟨?_, ?_, ?_, ?_, ?_, ?_, ?_⟩
  · exact by
      rw [hM 2 (by omega), hM 3 (by omega), hM 4 (by omega)]
      exact R.g.cg (fun i h1 => hf i (by omega) (by omega))
  · exact h
  · exact by
      rw [hM 15 (by omega), hM 16 (by omega), hM 17 (by omega), hM 18 (by omega), hN 19 (by omega)]
      exact R.c.cg hcb.2.1 (fun i h1 h2 => hf i (by omega) (by omega))
  · exact by
      rw [hM 20 (by omega), hM 21 (by omega)]
      exact R.k.cg hcb.2.2.1 (fun i h1 h2 => hf i (by omega) (by omega))
  · exact by
      rw [hM 22 (by omega), hM 0 (by omega)]
      exact R.s.cg (fun i h1 h2 h3 => hf i (by omega) h3)
  · exact by rw [hN 1 (by omega)]; exact R.fe
  · exact by rw [hN 1 (by omega)]; exact R.lo
theorem RelW.putC (R : RelW b cn but M N f fe lo) (hcb : CnB cn) (hM : ∀ i, i < 15 ∨ 19 < i → M' (1, b, i) = M (1, b, i)) (hN : ∀ i, i = 1 ∨ i = 6 → N' (1, b, i) = N (1, b, i)) (hf : ∀ i, i < 960 ∨ 1504 ≤ i → f' i = f i) (h : RC cn.c but (M' (1, b, 15)) (M' (1, b, 16)) (M' (1, b, 17)) (M' (1, b, 18)) (N' (1, b, 19)) f') : RelW b cn but M' N' f' fe lo := by
  refine ⟨?_, ?_, ?_, ?_, ?_, ?_, ?_⟩
  · exact by
      rw [hM 2 (by omega), hM 3 (by omega), hM 4 (by omega)]
      exact R.g.cg (fun i h1 => hf i (by omega))
  · exact by
      rw [hM 6 (by omega), hM 7 (by omega), hM 8 (by omega), hM 9 (by omega), hM 10 (by omega), hM 11 (by omega), hM 12 (by omega), hN 6 (by omega)]
      exact R.p.cg (fun i h1 h2 => hf i (by omega)) (hf _ (by omega))
  · exact h
  · exact by
      rw [hM 20 (by omega), hM 21 (by omega)]
      exact R.k.cg hcb.2.2.1 (fun i h1 h2 => hf i (by omega))
  · exact by
      rw [hM 22 (by omega), hM 0 (by omega)]
      exact R.s.cg (fun i h1 h2 _ => hf i (by omega))
  · exact by rw [hN 1 (by omega)]; exact R.fe
  · exact by rw [hN 1 (by omega)]; exact R.lo
theorem RelW.putK (R : RelW b cn but M N f fe lo) (hcb : CnB cn) (hM : ∀ i, i < 20 ∨ 21 < i → M' (1, b, i) = M (1, b, i)) (hf : ∀ i, i < 1504 ∨ 1624 ≤ i → f' i = f i) (h : RK cn.w (M' (1, b, 20)) (M' (1, b, 21)) f') : RelW b cn but M' N f' fe lo := by
  refine ⟨?_, ?_, ?_, ?_, ?_, ?_, ?_⟩
  · exact by
      rw [hM 2 (by omega), hM 3 (by omega), hM 4 (by omega)]
      exact R.g.cg (fun i h1 => hf i (by omega))
  · exact by
      rw [hM 6 (by omega), hM 7 (by omega), hM 8 (by omega), hM 9 (by omega), hM 10 (by omega), hM 11 (by omega), hM 12 (by omega)]
      exact R.p.cg (fun i h1 h2 => hf i (by omega)) (hf _ (by omega))
  · exact by
      rw [hM 15 (by omega), hM 16 (by omega), hM 17 (by omega), hM 18 (by omega)]
      exact R.c.cg hcb.2.1 (fun i h1 h2 => hf i (by omega))
  · exact h
  · exact by
      rw [hM 22 (by omega), hM 0 (by omega)]
      exact R.s.cg (fun i h1 h2 _ => hf i (by omega))
  · exact R.fe
  · exact R.lo
theorem RelW.putS (R : RelW b cn but M N f fe lo) (hcb : CnB cn) (hM : ∀ i, i ≠ 22 → i ≠ 0 → M' (1, b, i) = M (1, b, i)) (hf : ∀ i, i < 1624 ∨ i = 1625 → f' i = f i) (h : RS but (M' (1, b, 22)) (M' (1, b, 0)) f') : RelW b cn but M' N f' fe lo := by
  refine ⟨?_, ?_, ?_, ?_, ?_, ?_, ?_⟩
  · exact by
      rw [hM 2 (by omega) (by omega), hM 3 (by omega) (by omega), hM 4 (by omega) (by omega)]
      exact R.g.cg (fun i h1 => hf i (by omega))
  · exact by
      rw [hM 6 (by omega) (by omega), hM 7 (by omega) (by omega), hM 8 (by omega) (by omega), hM 9 (by omega) (by omega), hM 10 (by omega) (by omega), hM 11 (by omega) (by omega), hM 12 (by omega) (by omega)]
      exact R.p.cg (fun i h1 h2 => hf i (by omega)) (hf _ (by omega))
  · exact by
      rw [hM 15 (by omega) (by omega), hM 16 (by omega) (by omega), hM 17 (by omega) (by omega), hM 18 (by omega) (by omega)]
      exact R.c.cg hcb.2.1 (fun i h1 h2 => hf i (by omega))
  · exact by
      rw [hM 20 (by omega) (by omega), hM 21 (by omega) (by omega)]
      exact R.k.cg hcb.2.2.1 (fun i h1 h2 => hf i (by omega))
  · exact h
  · exact R.fe
  · exact R.lo
theorem cell_ne {b i j : Nat} (h : i ≠ j) : ((1 : Nat), b, i) ≠ (1, b, j) := fun e => by
  simp only [Prod.mk.injEq] at e
  omega
/-- carts -/
theorem RC.pl {nc : Nat} {pl po dg ta : Nat → Int32} {mp : Nat → Int64} (R : RC nc but pl po dg ta mp f) (h8 : nc ≤ 8) (hq : q < nc) : RC nc but (upd pl q x) po dg ta mp (upd f (960 + q) x) := by
  refine ⟨?_, ?_, ?_, ?_⟩
  · exact fun i hi hb => by
      rw [pk_un (show 968 + i ≠ 960 + q by omega), pk_un (show 976 + i ≠ 960 + q by omega), pk_un (show 984 + i ≠ 960 + q by omega)]
      refine ⟨?_, (R.on i hi hb).2⟩
      by_cases e : i = q
      · subst e; rw [pk_us, pk_us]
      · rw [pk_un e, pk_un (by omega)]; exact (R.on i hi hb).1
  · exact fun i hi hb c hc => by rw [pk_un (by omega)]; exact R.mp i hi hb c hc
  · exact R.off
  · exact R.new
theorem RC.po {nc : Nat} {pl po dg ta : Nat → Int32} {mp : Nat → Int64} (R : RC nc but pl po dg ta mp f) (h8 : nc ≤ 8) (hq : q < nc) : RC nc but pl (upd po q x) dg ta mp (upd f (968 + q) x) := by
  refine ⟨?_, ?_, ?_, ?_⟩
  · exact fun i hi hb => by
      rw [pk_un (show 960 + i ≠ 968 + q by omega), pk_un (show 976 + i ≠ 968 + q by omega), pk_un (show 984 + i ≠ 968 + q by omega)]
      refine ⟨(R.on i hi hb).1, ?_, (R.on i hi hb).2.2⟩
      by_cases e : i = q
      · subst e; rw [pk_us, pk_us]
      · rw [pk_un e, pk_un (by omega)]; exact (R.on i hi hb).2.1
  · exact fun i hi hb c hc => by rw [pk_un (by omega)]; exact R.mp i hi hb c hc
  · exact R.off
  · exact R.new
theorem RC.dg {nc : Nat} {pl po dg ta : Nat → Int32} {mp : Nat → Int64} (R : RC nc but pl po dg ta mp f) (h8 : nc ≤ 8) (hq : q < nc) (hnb : ¬ but 1 q) : RC nc but pl po (upd dg q x) ta mp (upd f (976 + q) x) := by
  refine ⟨?_, ?_, ?_, ?_⟩
  · exact fun i hi hb => by
      rw [pk_un (show 960 + i ≠ 976 + q by omega), pk_un (show 968 + i ≠ 976 + q by omega), pk_un (show 984 + i ≠ 976 + q by omega)]
      refine ⟨(R.on i hi hb).1, (R.on i hi hb).2.1, ?_, (R.on i hi hb).2.2.2⟩
      by_cases e : i = q
      · subst e; rw [pk_us, pk_us]
      · rw [pk_un e, pk_un (by omega)]; exact (R.on i hi hb).2.2.1
  · exact fun i hi hb c hc => by rw [pk_un (by omega)]; exact R.mp i hi hb c hc
  · exact fun i hi h => by
      have e : i ≠ q := fun e => by
        subst e
        cases h with
        | inl h => omega
        | inr h => exact hnb h
      rw [pk_un e]; exact R.off i hi h
  · exact R.new
theorem RC.ta {nc : Nat} {pl po dg ta : Nat → Int32} {mp : Nat → Int64} (R : RC nc but pl po dg ta mp f) (h8 : nc ≤ 8) (hq : q < nc) : RC nc but pl po dg (upd ta q x) mp (upd f (984 + q) x) := by
  refine ⟨?_, ?_, ?_, ?_⟩
  · exact fun i hi hb => by
      rw [pk_un (show 960 + i ≠ 984 + q by omega), pk_un (show 968 + i ≠ 984 + q by omega), pk_un (show 976 + i ≠ 984 + q by omega)]
      refine ⟨(R.on i hi hb).1, (R.on i hi hb).2.1, (R.on i hi hb).2.2.1, ?_⟩
      by_cases e : i = q
      · subst e; rw [pk_us, pk_us]
      · rw [pk_un e, pk_un (by omega)]; exact (R.on i hi hb).2.2.2
  · exact fun i hi hb c hc => by rw [pk_un (by omega)]; exact R.mp i hi hb c hc
  · exact R.off
  · exact fun i hi h => by rw [pk_un (show i ≠ q by omega)]; exact R.new i hi h
theorem RC.heard {nc : Nat} {pl po dg ta : Nat → Int32} {mp : Nat → Int64} (R : RC nc but pl po dg ta mp f) (h8 : nc ≤ 8) (hq : q < nc) (hc : c < 64) : RC nc but pl po dg ta (vp_updL mp q (mp q ||| am_bit (nI c))) (upd f (992 + 64 * q + c) 1) := by
  refine ⟨?_, ?_, ?_, ?_⟩
  · exact fun i hi hb => by rw [pk_un (by omega), pk_un (by omega), pk_un (by omega), pk_un (by omega)]; exact R.on i hi hb
  · exact fun i hi hb j hj => by
      by_cases e : i = q
      · subst e
        rw [pk_uLs, tb_set hc hj]
        by_cases e2 : j = c
        · subst e2; rw [if_pos rfl, pk_us]; simp
        · rw [if_neg e2, pk_un (by omega)]; exact R.mp i hi hb j hj
      · rw [pk_uLn e, pk_un (by omega)]; exact R.mp i hi hb j hj
  · exact R.off
  · exact fun i hi h => by rw [pk_uLn (show i ≠ q by omega)]; exact R.new i hi h
theorem RK.ws {nw : Nat} {ws wd : Nat → Int32} (R : RK nw ws wd f) (h60 : nw ≤ 60) (hw : w < nw) : RK nw (upd ws w x) wd (upd f (1504 + w) x) := by
  refine ⟨?_, ?_⟩
  · exact fun i hi => by
      rw [pk_un (show 1564 + i ≠ 1504 + w by omega)]
      refine ⟨?_, (R.on i hi).2⟩
      by_cases e : i = w
      · subst e; rw [pk_us, pk_us]
      · rw [pk_un e, pk_un (by omega)]; exact (R.on i hi).1
  · exact fun i hi h => by rw [pk_un (show i ≠ w by omega)]; exact R.new i hi h
theorem RK.wd {nw : Nat} {ws wd : Nat → Int32} (R : RK nw ws wd f) (h60 : nw ≤ 60) (hw : w < nw) : RK nw ws (upd wd w x) (upd f (1564 + w) x) := by
  refine ⟨?_, ?_⟩
  · exact fun i hi => by
      rw [pk_un (show 1504 + i ≠ 1564 + w by omega)]
      refine ⟨(R.on i hi).1, ?_⟩
      by_cases e : i = w
      · subst e; rw [pk_us, pk_us]
      · rw [pk_un e, pk_un (by omega)]; exact (R.on i hi).2
  · exact fun i hi h => by rw [pk_un (show i ≠ w by omega)]; exact R.new i hi h
theorem RG.prs {hg we pr : Nat → Int32} (R : RG hg we pr f) (hc : c < 64) : RG hg we (upd pr c x) (upd f (128 + c) x) := by
  refine ⟨?_, ?_, ?_⟩
  · exact fun i hi => by rw [pk_un (by omega)]; exact R.hg i hi
  · exact fun i hi => by rw [pk_un (by omega)]; exact R.we i hi
  · exact fun i hi => by
      by_cases e : i = c
      · subst e; rw [pk_us, pk_us]
      · rw [pk_un e, pk_un (by omega)]; exact R.pr i hi
/-- one write of a cart's or a work's -/
theorem RelW.u15 (R : RelW b cn but M N f fe lo) (hcb : CnB cn) (hq : q < cn.c) (x : Int32) : RelW b cn but (am_u M (1, b, 15) q x) N (upd f (960 + q) x) fe lo := by
  refine R.putC hcb (fun i hi => am_u_o M q x (cell_ne (by omega))) (fun _ _ => rfl) (fun i hi => pk_un (by have := hcb.2.1; omega)) ?_
  rw [am_u_c, am_u_o M q x (cell_ne (by omega)), am_u_o M q x (cell_ne (by omega)), am_u_o M q x (cell_ne (by omega))]
  exact R.c.pl hcb.2.1 hq
theorem RelW.u16 (R : RelW b cn but M N f fe lo) (hcb : CnB cn) (hq : q < cn.c) (x : Int32) : RelW b cn but (am_u M (1, b, 16) q x) N (upd f (968 + q) x) fe lo := by
  refine R.putC hcb (fun i hi => am_u_o M q x (cell_ne (by omega))) (fun _ _ => rfl) (fun i hi => pk_un (by have := hcb.2.1; omega)) ?_
  rw [am_u_c, am_u_o M q x (cell_ne (show 15 ≠ 16 by omega)), am_u_o M q x (cell_ne (show 17 ≠ 16 by omega)), am_u_o M q x (cell_ne (show 18 ≠ 16 by omega))]
  exact R.c.po hcb.2.1 hq
theorem RelW.u17 (R : RelW b cn but M N f fe lo) (hcb : CnB cn) (hq : q < cn.c) (hnb : ¬ but 1 q) (x : Int32) : RelW b cn but (am_u M (1, b, 17) q x) N (upd f (976 + q) x) fe lo := by
  refine R.putC hcb (fun i hi => am_u_o M q x (cell_ne (by omega))) (fun _ _ => rfl) (fun i hi => pk_un (by have := hcb.2.1; omega)) ?_
  rw [am_u_c, am_u_o M q x (cell_ne (show 15 ≠ 17 by omega)), am_u_o M q x (cell_ne (show 16 ≠ 17 by omega)), am_u_o M q x (cell_ne (show 18 ≠ 17 by omega))]
  exact R.c.dg hcb.2.1 hq hnb
theorem RelW.u18 (R : RelW b cn but M N f fe lo) (hcb : CnB cn) (hq : q < cn.c) (x : Int32) : RelW b cn but (am_u M (1, b, 18) q x) N (upd f (984 + q) x) fe lo := by
  refine R.putC hcb (fun i hi => am_u_o M q x (cell_ne (by omega))) (fun _ _ => rfl) (fun i hi => pk_un (by have := hcb.2.1; omega)) ?_
  rw [am_u_c, am_u_o M q x (cell_ne (show 15 ≠ 18 by omega)), am_u_o M q x (cell_ne (show 16 ≠ 18 by omega)), am_u_o M q x (cell_ne (show 17 ≠ 18 by omega))]
  exact R.c.ta hcb.2.1 hq
theorem RelW.u19 (R : RelW b cn but M N f fe lo) (hcb : CnB cn) (hq : q < cn.c) (hc : c < 64) : RelW b cn but M (am_ul N (1, b, 19) q (N (1, b, 19) q ||| am_bit (nI c))) (upd f (992 + 64 * q + c) 1) fe lo := by
  refine R.putC hcb (fun i hi => rfl) (fun i hi => am_ul_o N q _ (cell_ne (by omega))) (fun i hi => pk_un (by have := hcb.2.1; omega)) ?_
  rw [am_ul_c]
  exact R.c.heard hcb.2.1 hq hc
theorem RelW.u20 (R : RelW b cn but M N f fe lo) (hcb : CnB cn) (hw : w < cn.w) (x : Int32) : RelW b cn but (am_u M (1, b, 20) w x) N (upd f (1504 + w) x) fe lo := by
  refine R.putK hcb (fun i hi => am_u_o M w x (cell_ne (by omega))) (fun i hi => pk_un (by have := hcb.2.2.1; omega)) ?_
  rw [am_u_c, am_u_o M w x (cell_ne (show 21 ≠ 20 by omega))]
  exact R.k.ws hcb.2.2.1 hw
theorem RelW.u21 (R : RelW b cn but M N f fe lo) (hcb : CnB cn) (hw : w < cn.w) (x : Int32) : RelW b cn but (am_u M (1, b, 21) w x) N (upd f (1564 + w) x) fe lo := by
  refine R.putK hcb (fun i hi => am_u_o M w x (cell_ne (by omega))) (fun i hi => pk_un (by have := hcb.2.2.1; omega)) ?_
  rw [am_u_c, am_u_o M w x (cell_ne (show 20 ≠ 21 by omega))]
  exact R.k.wd hcb.2.2.1 hw
theorem RelW.u4 (R : RelW b cn but M N f fe lo) (hcb : CnB cn) (hc : c < 64) (x : Int32) : RelW b cn but (am_u M (1, b, 4) c x) N (upd f (128 + c) x) fe lo := by
  refine R.putG hcb (fun i hi => am_u_o M c x (cell_ne (by omega))) (fun i hi => pk_un (by omega)) ?_
  rw [am_u_c, am_u_o M c x (cell_ne (show 2 ≠ 4 by omega)), am_u_o M c x (cell_ne (show 3 ≠ 4 by omega))]
  exact R.g.prs hc
/-- what stays in order -/
theorem GoodF.putC (G : GoodF W cn f) (hf : ∀ i, i < 960 ∨ 1504 ≤ i → f' i = f i) (h : GC cn f') : GoodF W cn f' := by
  refine ⟨?_, ?_, ?_, ?_, ?_, ?_⟩
  · exact G.b
  · exact G.W
  · exact G.g.cg (fun i h1 h2 => hf i (by omega)) (hf _ (by omega))
  · exact G.p.cg (fun i h1 h2 => hf i (by omega)) (hf _ (by omega))
  · exact h
  · exact G.n.cg (fun i h1 h2 => hf i (by omega))
theorem GoodF.putK (G : GoodF W cn f) (hf : ∀ i, i < 1504 ∨ 1624 ≤ i → f' i = f i) : GoodF W cn f' := by
  refine ⟨?_, ?_, ?_, ?_, ?_, ?_⟩
  · exact G.b
  · exact G.W
  · exact G.g.cg (fun i h1 h2 => hf i (by omega)) (hf _ (by omega))
  · exact G.p.cg (fun i h1 h2 => hf i (by omega)) (hf _ (by omega))
  · exact G.c.cg G.b.2.1 (fun i h1 h2 => hf i (by omega))
  · exact G.n.cg (fun i h1 h2 => hf i (by omega))
theorem GoodF.putP (G : GoodF W cn f) (hf : ∀ i, i < 192 ∨ 960 ≤ i → i ≠ 1625 → f' i = f i) (h : GP cn f') : GoodF W cn f' := by
  refine ⟨?_, ?_, ?_, ?_, ?_, ?_⟩
  · exact G.b
  · exact G.W
  · exact G.g.cg (fun i h1 h2 => hf i (by omega) (by omega)) (hf _ (by omega) (by omega))
  · exact h
  · exact G.c.cg G.b.2.1 (fun i h1 h2 => hf i (by omega) (by omega))
  · exact G.n.cg (fun i h1 h2 => hf i (by omega) (by omega))
theorem GoodF.prs (G : GoodF W cn f) (hc : c < 64) {t : Nat} (ht : t ≤ 9999) : GoodF W cn (upd f (128 + c) (nI t)) := by
  refine ⟨?_, ?_, ?_, ?_, ?_, ?_⟩
  · exact G.b
  · exact G.W
  · exact by
      refine ⟨?_, fun i hi => ?_, ?_⟩
      · obtain ⟨t, h1, h2⟩ := G.g.we
        exact ⟨t, fun i hi => by rw [pk_un (by omega)]; exact h1 i hi, h2⟩
      · by_cases e : i = c
        · subst e; exact ⟨t, ht, pk_us⟩
        · rw [pk_un (by omega)]; exact G.g.pr i hi
      · rw [pk_un (by omega)]; exact G.g.li
  · exact G.p.cg (fun i h1 h2 => pk_un (by omega)) (pk_un (by omega))
  · exact G.c.cg G.b.2.1 (fun i h1 h2 => pk_un (by omega))
  · exact G.n.cg (fun i h1 h2 => pk_un (by omega))
theorem GC.one (R : GC cn f) (h8 : cn.c ≤ 8) (hq : q < cn.c) (e : ∀ i, 960 ≤ i → i < 1504 → i ≠ 960 + q → i ≠ 976 + q → i ≠ 984 + q → ¬ (968 ≤ i ∧ i < 976) → f' i = f i) (hs : ∃ s, s < 64 ∧ f' (960 + q) = nI s) (h6 : ¬ f' (976 + q) = 6) (h1 : f' (976 + q) = 1 → ∃ w, w < cn.w ∧ f' (984 + q) = nI w) (h0 : ¬ f' (976 + q) = 1 → f' (984 + q) = -1) : GC cn f' := by
  refine ⟨?_, ?_, ?_, ?_, ?_, ?_⟩
  · exact fun i hi => by
      by_cases z : i = q
      · subst z; exact hs
      · rw [e _ (by omega) (by omega) (by omega) (by omega) (by omega) (by omega)]; exact R.sp i hi
  · exact fun i hi => by
      by_cases z : i = q
      · subst z; exact h6
      · rw [e _ (by omega) (by omega) (by omega) (by omega) (by omega) (by omega)]; exact R.ne6 i hi
  · exact fun i hi => by
      by_cases z : i = q
      · subst z; exact h1
      · rw [e _ (by omega) (by omega) (by omega) (by omega) (by omega) (by omega), e _ (by omega) (by omega) (by omega) (by omega) (by omega) (by omega)]; exact R.it1 i hi
  · exact fun i hi => by
      by_cases z : i = q
      · subst z; exact h0
      · rw [e _ (by omega) (by omega) (by omega) (by omega) (by omega) (by omega), e _ (by omega) (by omega) (by omega) (by omega) (by omega) (by omega)]; exact R.it0 i hi
  · exact fun i hi c hc => by rw [e _ (by omega) (by omega) (by omega) (by omega) (by omega) (by omega)]; exact R.mp i hi c hc
  · exact fun i hi h => by
      rw [e _ (by omega) (by omega) (by omega) (by omega) (by omega) (by omega)]
      exact ⟨(R.new i hi h).1, fun c hc => by rw [e _ (by omega) (by omega) (by omega) (by omega) (by omega) (by omega)]; exact (R.new i hi h).2 c hc⟩
end PG
