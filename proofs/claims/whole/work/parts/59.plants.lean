/-! ===== plants, both sides ===== -/
theorem put5_o {f : Nat → Int32} {o i : Nat} {s : Nat → Int32} (h : ¬ (o ≤ i ∧ i < o + 5)) : put5 f o s i = f i := if_neg h
theorem put5_at {f : Nat → Int32} {o k : Nat} {s : Nat → Int32} (h : k < 5) : put5 f o s (o + k) = s k := by
  unfold put5
  rw [if_pos ⟨by omega, by omega⟩, show o + k - o = k by omega]
def dieF (f : Nat → Int32) (c : Nat) (why : Int32) : Nat → Int32 := upd (upd f (192 + c) 0) (576 + c) why
def dieI (f : Nat → Int32) (c : Nat) (why : Int32) : Nat → Int32 := if f (192 + c) = 1 then dieF f c why else f
def odF (bk : Bk) (k m : Nat) : Int32 := nI (bk.od k m)
def seenF (bk : Bk) (f : Nat → Int32) (c : Nat) (marks : Int32) : Nat → Int32 :=
  if f (192 + c) = 1 then (if 0 < psum (odF bk) marks (fun k => f (640 + 5 * c + k)) 5 then put5 (upd f (384 + c) (f (384 + c) + 1)) (640 + 5 * c) (newS (odF bk) marks (fun k => f (640 + 5 * c + k)) 5) else upd f (384 + c) (f (384 + c) + 1)) else f
def gotF (f : Nat → Int32) (c : Nat) (x : Int32) : Nat → Int32 := if f (192 + c) = 1 then upd f (448 + c) (f (448 + c) + x) else f
theorem wgh_0 (od : Nat → Int32) (marks : Int32) : ∀ n, wgh od marks 0 n = 0
  | 0 => rfl
  | n + 1 => by
    unfold wgh
    rw [wgh_0 od marks n, Int64.zero_mul]
    decide
theorem wgh_cg {od od' : Nat → Int32} {marks : Int32} {v : Int64} : ∀ n, (∀ m, m < n → od m = od' m) → wgh od marks v n = wgh od' marks v n
  | 0, _ => rfl
  | n + 1, h => by
    unfold wgh
    rw [wgh_cg n (fun m hm => h m (by omega)), h n (by omega)]
theorem i0_l : (0 : Int32).toInt64 = 0 := by decide
theorem partS_0 {od : Nat → Nat → Int32} {marks : Int32} {sh : Nat → Int32} {k : Nat} (h : sh k = 0) : partS od marks sh k = 0 := by
  unfold partS
  rw [h, i0_l, wgh_0]
theorem partS_cg {od od' : Nat → Nat → Int32} {marks : Int32} {sh sh' : Nat → Int32} {k : Nat} (e : sh k = sh' k) (h : (∀ m, m < 4 → od k m = od' k m) ∨ sh' k = 0) : partS od marks sh k = partS od' marks sh' k := by
  cases h with
  | inl h =>
    unfold partS
    rw [e, wgh_cg 4 h]
  | inr h => rw [partS_0 h, partS_0 (e.trans h)]
theorem psum_cg {od od' : Nat → Nat → Int32} {marks : Int32} {sh sh' : Nat → Int32} : ∀ n, (∀ k, k < n → partS od marks sh k = partS od' marks sh' k) → psum od marks sh n = psum od' marks sh' n
  | 0, _ => rfl
  | n + 1, h => by
    unfold psum
    rw [psum_cg n (fun k hk => h k (by omega)), h n (by omega)]
theorem newS_cg {od od' : Nat → Nat → Int32} {marks : Int32} {sh sh' : Nat → Int32} (h : ∀ k, k < 5 → partS od marks sh k = partS od' marks sh' k) {k : Nat} (hk : k < 5) : newS od marks sh 5 k = newS od' marks sh' 5 k := by
  unfold newS
  rw [if_pos hk, if_pos hk, h k hk, psum_cg 5 h]
theorem GP.cg' {cn : Cn} {f f' : Nat → Int32} (R : GP cn f) (e1 : ∀ i, i < 64 → f' (192 + i) = f (192 + i)) (e2 : ∀ i, i < 64 → f' (320 + i) = f (320 + i)) (e3 : ∀ i, 640 ≤ i → i < 960 → f' i = f i) (e4 : f' 1625 = f 1625) : GP cn f' := by
  refine ⟨?_, ?_, ?_, ?_⟩
  · exact fun c hc => by rw [e1 c hc]; exact R.st c hc
  · exact fun c hc => by rw [e2 c hc]; exact R.il c hc
  · exact fun c hc k hk h => by rw [e3 _ (by omega) (by omega)]; exact R.sh c hc k hk h
  · exact by rw [e4]; exact R.nl
section PL
variable {M M' : am_I} {N N' : am_N} {b : Nat} {bk : Bk} {cn full : Cn} {but : Nat → Nat → Prop} {f f' : Nat → Int32} {fe lo : Int64} {W q c w : Nat} {x why marks : Int32} {post : am_I → am_N → Prop} {postI : Int32 → am_I → am_N → Prop}
theorem RP.rem {st il : Int64} {sz se go sw ba sh : Nat → Int32} {nl : Int32} (R : RP st il sz se go sw ba sh nl f) (hc : c < 64) : RP (st &&& (am_bit (nI c) ^^^ (-1))) (il &&& (am_bit (nI c) ^^^ (-1))) sz se go sw (upd ba c why) sh nl (dieF f c why) := by
  have h1 : ∀ i, i < 64 → i ≠ c → dieF f c why (192 + i) = f (192 + i) := fun i hi e => by unfold dieF; rw [pk_un (by omega), pk_un (by omega)]
  have h2 : dieF f c why (192 + c) = 0 := by unfold dieF; rw [pk_un (by omega), pk_us]
  have h3 : ∀ i, 256 ≤ i → i ≠ 576 + c → dieF f c why i = f i := fun i hi e => by unfold dieF; rw [pk_un (by omega), pk_un (by omega)]
  have h4 : dieF f c why (576 + c) = why := by unfold dieF; rw [pk_us]
  refine ⟨fun i hi => ?_, fun i hi => ?_, fun i hi => ?_, fun i hi => ?_, fun i hi => ?_, fun i hi => ?_, ?_⟩
  · rw [tb_clr hc hi]
    by_cases e : i = c
    · subst e; rw [if_pos rfl, h2]; simp
    · rw [if_neg e, h1 i hi e]; exact R.st i hi
  · rw [tb_clr hc hi]
    by_cases e : i = c
    · subst e; rw [if_pos rfl, h2]; simp
    · rw [if_neg e, h1 i hi e, h3 _ (by omega) (by omega)]; exact R.il i hi
  · by_cases e : i = c
    · subst e; rw [h2]; intro z; exact absurd z (by decide)
    · rw [h1 i hi e, h3 _ (by omega) (by omega), h3 _ (by omega) (by omega), h3 _ (by omega) (by omega)]; exact R.sz i hi
  · by_cases e : i = c
    · subst e; rw [h2]; intro z; exact absurd z (by decide)
    · rw [h1 i hi e]
      intro z k hk
      rw [h3 _ (by omega) (by omega)]; exact R.sh i hi z k hk
  · rw [h3 _ (by omega) (by omega)]; exact R.sw i hi
  · by_cases e : i = c
    · subst e; rw [pk_us, h2, if_neg (by decide), h4]
    · rw [pk_un e, h1 i hi e, h3 _ (by omega) (by omega)]; exact R.ba i hi
  · rw [h3 _ (by omega) (by omega)]; exact R.nl
theorem dieF_good (G : GoodF W cn f) (hc : c < 64) : GoodF W cn (dieF f c why) := by
  have h3 : ∀ i, i ≠ 192 + c → i ≠ 576 + c → dieF f c why i = f i := fun i hi e => by unfold dieF; rw [pk_un (by omega), pk_un (by omega)]
  refine G.putP (fun i hi h5 => h3 i (by omega) (by omega)) ⟨fun i hi => ?_, fun i hi => ?_, fun i hi k hk hn => ?_, ?_⟩
  · by_cases e : i = c
    · subst e; left; unfold dieF; rw [pk_un (by omega), pk_us]
    · rw [h3 _ (by omega) (by omega)]; exact G.p.st i hi
  · rw [h3 _ (by omega) (by omega)]; exact G.p.il i hi
  · rw [h3 _ (by omega) (by omega)]; exact G.p.sh i hi k hk hn
  · rw [h3 _ (by omega) (by omega)]; exact G.p.nl
theorem dieI_good (G : GoodF W cn f) (hc : c < 64) : GoodF W cn (dieI f c why) := by
  unfold dieI
  by_cases e : f (192 + c) = 1
  · rw [if_pos e]; exact dieF_good G hc
  · rw [if_neg e]; exact G
theorem tb_st (S : StC b bk cn full but M N f fe lo) (hc : c < 64) : (tb (N (1, b, 6) 8) c = false ↔ ¬ f (192 + c) = 1) := by
  rw [← S.w.p.st c hc]
  cases tb (N (1, b, 6) 8) c <;> simp
theorem c_remove (S : StC b bk cn full but M N f fe lo) (hcb : CnB cn) (hc : c < 64) (h : ∀ M' N', Fr b M N M' N' → (∀ i, i ≠ 11 → M' (1, b, i) = M (1, b, i)) → StC b bk cn full but M' N' (dieI f c why) fe lo → post M' N') : w_X6_remove b (nI c) why M N post := by
  unfold dieI at h
  refine sp_X6_remove hc (fun z => ?_) (fun z => ?_)
  · rw [if_pos ((S.w.p.st c hc).mp z)] at h
    have F : Fr b M N (am_u M (1, b, 11) c why) (am_ul (am_ul N (1, b, 6) 8 (N (1, b, 6) 8 &&& (am_bit (nI c) ^^^ (-1)))) (1, b, 6) 9 (N (1, b, 6) 9 &&& (am_bit (nI c) ^^^ (-1)))) := (Fr.u (by decide) _).tr ((Fr.ul _).tr (Fr.ul _))
    refine h _ _ F (fun i hi => am_u_o M c why (cell_ne hi)) (S.nx F ?_)
    refine RelW.putP hcb S.w (fun i hi => am_u_o M c why (cell_ne (by omega))) (fun i hi => by rw [am_ul_o _ _ _ (cell_ne (by omega)), am_ul_o _ _ _ (cell_ne (by omega))]) (fun i hi _ => by unfold dieF; rw [pk_un (by omega), pk_un (by omega)]) ?_
    rw [am_u_c, am_u_o M c why (cell_ne (show 7 ≠ 11 by omega)), am_u_o M c why (cell_ne (show 8 ≠ 11 by omega)), am_u_o M c why (cell_ne (show 9 ≠ 11 by omega)), am_u_o M c why (cell_ne (show 10 ≠ 11 by omega)), am_u_o M c why (cell_ne (show 12 ≠ 11 by omega)), am_u_o M c why (cell_ne (show 6 ≠ 11 by omega)), am_ul_at, am_ul_c, pk_uLn (by decide), am_ul_at]
    exact S.w.p.rem hc
  · rw [if_neg ((tb_st S hc).mp z)] at h
    exact h _ _ Fr.rf (fun _ _ => rfl) S
theorem r_dies (S : StM bk cn but M N f fe lo) (hc : c < 64) (h : ∀ M' N', FrM M N M' N' → StM bk cn but M' N' (dieF f c why) fe lo → post M' N') : w_X12_dies (nI c) why M N post := by
  refine sp_X12_dies hc ?_
  rw [S.f]
  exact h _ _ (FrM.s _) (S.nf _)
/-- a look -/
theorem seenF_o {i : Nat} (h1 : i ≠ 384 + c) (h2 : ¬ (640 + 5 * c ≤ i ∧ i < 640 + 5 * c + 5)) : seenF bk f c marks i = f i := by
  unfold seenF
  by_cases e : f (192 + c) = 1
  · rw [if_pos e]
    by_cases e2 : 0 < psum (odF bk) marks (fun k => f (640 + 5 * c + k)) 5
    · rw [if_pos e2, put5_o h2, pk_un h1]
    · rw [if_neg e2, pk_un h1]
  · rw [if_neg e]
theorem seenF_good (G : GoodF W cn f) (hc : c < 64) : GoodF W cn (seenF bk f c marks) := by
  refine G.putP (fun i hi h5 => seenF_o (by omega) (by omega)) ⟨fun i hi => ?_, fun i hi => ?_, fun i hi k hk hn => ?_, ?_⟩
  · rw [seenF_o (by omega) (by omega)]; exact G.p.st i hi
  · rw [seenF_o (by omega) (by omega)]; exact G.p.il i hi
  · by_cases e : i = c
    · subst e
      have h0 := G.p.sh i hi k hk hn
      unfold seenF
      by_cases e : f (192 + i) = 1
      · rw [if_pos e]
        by_cases e2 : 0 < psum (odF bk) marks (fun k => f (640 + 5 * i + k)) 5
        · rw [if_pos e2, put5_at hk]
          unfold newS
          rw [if_pos hk, partS_0 (sh := fun k => f (640 + 5 * i + k)) h0, Int64.zero_mul, Int64.zero_div]
          decide
        · rw [if_neg e2, pk_un (by omega)]; exact h0
      · rw [if_neg e]; exact h0
    · rw [seenF_o (by omega) (by omega)]; exact G.p.sh i hi k hk hn
  · rw [seenF_o (by omega) (by omega)]; exact G.p.nl
theorem r_seen (S : StM bk cn but M N f fe lo) (G : GoodF W cn f) (hc : c < 64) (h : ∀ M' N', FrM M N M' N' → StM bk cn but M' N' (seenF bk f c marks) fe lo → post M' N') : w_X12_seen (nI c) marks M N post := by
  by_cases e : f (192 + c) = 0
  · have e1 : ¬ f (192 + c) = 1 := by rw [e]; decide
    unfold seenF at h
    rw [if_neg e1] at h
    unfold w_X12_seen
    have i1 : (192 + nI c).toNatClampNeg = 192 + c := by rw [ix192, nI_clamp (by omega)]
    have v1 : vp_in (192 + nI c) 1635 := by rw [ix192]; exact vp_in_nI (by omega) (by omega)
    rw [i1, S.f]
    exact ⟨v1, fun z => absurd e z, fun _ => h _ _ FrM.rf S⟩
  · have e1 : f (192 + c) = 1 := (G.p.st c hc).resolve_left e
    refine sp_X12_seen hc (by rw [S.f]; exact e) (fun wv => ?_)
    rw [S.f]
    have hp : ∀ k, k < 5 → partS (oddsM M) marks (fun k => f (640 + 5 * c + k)) k = partS (odF bk) marks (fun k => f (640 + 5 * c + k)) k := fun k hk => by
      refine partS_cg rfl ?_
      by_cases hn : k < cn.k
      · exact Or.inl (fun m hm => (S.k.k k hn).2 m hm)
      · exact Or.inr (G.p.sh c hc k hk (by omega))
    have e2 : (if 0 < psum (oddsM M) marks (fun k => f (640 + 5 * c + k)) 5 then put5 (upd f (384 + c) (f (384 + c) + 1)) (640 + 5 * c) (newS (oddsM M) marks (fun k => f (640 + 5 * c + k)) 5) else upd f (384 + c) (f (384 + c) + 1)) = seenF bk f c marks := by
      unfold seenF
      rw [if_pos e1, psum_cg 5 hp]
      have e3 : put5 (upd f (384 + c) (f (384 + c) + 1)) (640 + 5 * c) (newS (oddsM M) marks (fun k => f (640 + 5 * c + k)) 5) = put5 (upd f (384 + c) (f (384 + c) + 1)) (640 + 5 * c) (newS (odF bk) marks (fun k => f (640 + 5 * c + k)) 5) := by
        funext i
        unfold put5
        by_cases z : 640 + 5 * c ≤ i ∧ i < 640 + 5 * c + 5
        · rw [if_pos z, if_pos z, newS_cg hp (by omega)]
        · rw [if_neg z, if_neg z]
      rw [e3]
    rw [e2]
    exact h _ _ ((FrM.s _).tr (FrM.xl (by omega) (by omega) _)) ((S.nf _).nx2 (by omega) (by omega) _)
theorem RP.see {st il : Int64} {sz se go sw ba sh sh' : Nat → Int32} {nl : Int32} (R : RP st il sz se go sw ba sh nl f) (hc : c < 64) (e1 : f (192 + c) = 1) (hs : ∀ k, k < 5 → sh' (5 * c + k) = seenF bk f c marks (640 + 5 * c + k)) (ho : ∀ i, ¬ (5 * c ≤ i ∧ i < 5 * c + 5) → sh' i = sh i) : RP st il sz (upd se c (se c + 1)) go sw ba sh' nl (seenF bk f c marks) := by
  have h3 : ∀ i, i ≠ 384 + c → ¬ (640 + 5 * c ≤ i ∧ i < 640 + 5 * c + 5) → seenF bk f c marks i = f i := fun i => seenF_o
  have h4 : seenF bk f c marks (384 + c) = f (384 + c) + 1 := by
    unfold seenF
    rw [if_pos e1]
    by_cases e2 : 0 < psum (odF bk) marks (fun k => f (640 + 5 * c + k)) 5
    · rw [if_pos e2, put5_o (by omega), pk_us]
    · rw [if_neg e2, pk_us]
  refine ⟨fun i hi => ?_, fun i hi => ?_, fun i hi => ?_, fun i hi => ?_, fun i hi => ?_, fun i hi => ?_, ?_⟩
  · rw [h3 _ (by omega) (by omega)]; exact R.st i hi
  · rw [h3 _ (by omega) (by omega), h3 _ (by omega) (by omega)]; exact R.il i hi
  · rw [h3 (192 + i) (by omega) (by omega), h3 (256 + i) (by omega) (by omega), h3 (448 + i) (by omega) (by omega)]
    intro z
    refine ⟨(R.sz i hi z).1, ?_, (R.sz i hi z).2.2⟩
    by_cases e : i = c
    · subst e; rw [pk_us, h4, (R.sz i hi z).2.1]
    · rw [pk_un e, h3 _ (by omega) (by omega)]; exact (R.sz i hi z).2.1
  · rw [h3 (192 + i) (by omega) (by omega)]
    intro z k hk
    by_cases e : i = c
    · subst e; exact hs k hk
    · rw [ho _ (by omega), h3 _ (by omega) (by omega)]; exact R.sh i hi z k hk
  · rw [h3 _ (by omega) (by omega)]; exact R.sw i hi
  · rw [h3 _ (by omega) (by omega), h3 _ (by omega) (by omega)]; exact R.ba i hi
  · rw [h3 _ (by omega) (by omega)]; exact R.nl
/-- the odds that the class reads -/
def odC (M : am_I) (n k m : Nat) : Int32 := if k < n then M (2, 4, 1) (k * 6 + (2 + m)) else 0
theorem odC_ok {n : Nat} (hT : tabOK M 4 6 n) : oddsC M (odC M n) := by
  intro k hk m hm M' N' p e0 e1 hp
  have hT' : tabOK M' 4 6 n := hT.cg e0
  unfold odC at hp
  by_cases e : k < n
  · rw [if_pos e, ← e1] at hp
    exact sp_at (w := 6) (c := 2 + m) hT' e (by omega) hp
  · rw [if_neg e] at hp
    exact sp_at_out hT' (by omega) (by omega) hp
theorem c_see (S : StC b bk cn full but M N f fe lo) (G : GoodF W cn f) (hc : c < 64) (h : ∀ M' N', Fr b M N M' N' → (∀ i, i ≠ 8 → i ≠ 12 → M' (1, b, i) = M (1, b, i)) → StC b bk cn full but M' N' (seenF bk f c marks) fe lo → post M' N') : w_X6_see b (nI c) marks M N post := by
  by_cases e1 : f (192 + c) = 1
  · have hst := (S.w.p.st c hc).mpr e1
    refine sp_X6_see (odC_ok S.k.t4) hc hst (fun wv => ?_)
    have hp : ∀ k, k < 5 → partS (odC M full.k) marks (fun k => M (1, b, 12) (5 * c + k)) k = partS (odF bk) marks (fun k => f (640 + 5 * c + k)) k := fun k hk => by
      refine partS_cg (S.w.p.sh c hc e1 k hk) ?_
      by_cases hn : k < cn.k
      · refine Or.inl (fun m hm => ?_)
        unfold odC
        rw [if_pos (by have := S.k.le.2.2.2.2; omega)]
        exact (S.k.k k hn).2 m hm
      · exact Or.inr (G.p.sh c hc k hk (by omega))
    rw [psum_cg 5 hp]
    have F : Fr b M N (am_s (am_u M (1, b, 8) c (M (1, b, 8) c + 1)) (1, b, 12) (if 0 < psum (odF bk) marks (fun k => f (640 + 5 * c + k)) 5 then put5 (M (1, b, 12)) (5 * c) (newS (odC M full.k) marks (fun k => M (1, b, 12) (5 * c + k)) 5) else M (1, b, 12))) (am_s N (1, b, 13) wv) := (Fr.u (by decide) _).tr ((Fr.s (by decide) _).tr (Fr.l _))
    refine h _ _ F (fun i h8 h12 => by rw [am_s_other _ _ (cell_ne h12), am_u_o _ _ _ (cell_ne h8)]) (S.nx F ?_)
    refine RelW.putP G.b S.w (fun i hi => by rw [am_s_other _ _ (cell_ne (by omega)), am_u_o _ _ _ (cell_ne (by omega))]) (fun i hi => by rw [am_s_other _ _ (cell_ne (by omega))]) (fun i hi _ => seenF_o (by omega) (by omega)) ?_
    rw [am_s_other N _ (cell_ne (show 6 ≠ 13 by omega)), am_s_same, am_s_other _ _ (cell_ne (show 7 ≠ 12 by omega)), am_s_other _ _ (cell_ne (show 8 ≠ 12 by omega)), am_s_other _ _ (cell_ne (show 9 ≠ 12 by omega)), am_s_other _ _ (cell_ne (show 10 ≠ 12 by omega)), am_s_other _ _ (cell_ne (show 11 ≠ 12 by omega)), am_s_other _ _ (cell_ne (show 6 ≠ 12 by omega)), am_u_c, am_u_o M c _ (cell_ne (show 7 ≠ 8 by omega)), am_u_o M c _ (cell_ne (show 9 ≠ 8 by omega)), am_u_o M c _ (cell_ne (show 10 ≠ 8 by omega)), am_u_o M c _ (cell_ne (show 11 ≠ 8 by omega)), am_u_o M c _ (cell_ne (show 6 ≠ 8 by omega))]
    refine S.w.p.see hc e1 (fun k hk => ?_) (fun i hi => ?_)
    · unfold seenF
      rw [if_pos e1]
      by_cases e2 : 0 < psum (odF bk) marks (fun k => f (640 + 5 * c + k)) 5
      · rw [if_pos e2, if_pos e2, put5_at hk, put5_at hk, newS_cg hp hk]
      · rw [if_neg e2, if_neg e2, pk_un (by omega)]; exact S.w.p.sh c hc e1 k hk
    · by_cases e2 : 0 < psum (odF bk) marks (fun k => f (640 + 5 * c + k)) 5
      · rw [if_pos e2, put5_o hi]
      · rw [if_neg e2]
  · unfold seenF at h
    rw [if_neg e1] at h
    unfold w_X6_see
    refine sp_X6_standsOn hc (fun z => absurd ((S.w.p.st c hc).mp z) e1) (fun _ => ⟨fun z => absurd rfl z, fun _ => h _ _ Fr.rf (fun _ _ _ => rfl) S⟩)
/-- what is given -/
theorem gotF_o {i : Nat} (h1 : i ≠ 448 + c) : gotF f c x i = f i := by
  unfold gotF
  by_cases e : f (192 + c) = 1
  · rw [if_pos e, pk_un h1]
  · rw [if_neg e]
theorem gotF_good (G : GoodF W cn f) (hc : c < 64) : GoodF W cn (gotF f c x) :=
  G.putP (fun i hi h5 => gotF_o (by omega)) (G.p.cg' (fun i hi => gotF_o (by omega)) (fun i hi => gotF_o (by omega)) (fun i h1 h2 => gotF_o (by omega)) (gotF_o (by omega)))
theorem c_nourish (S : StC b bk cn full but M N f fe lo) (hcb : CnB cn) (hc : c < 64) (h : ∀ M' N', Fr b M N M' N' → (∀ i, i ≠ 9 → M' (1, b, i) = M (1, b, i)) → StC b bk cn full but M' N' (gotF f c x) fe lo → post M' N') : w_X6_nourish b (nI c) x M N post := by
  unfold gotF at h
  unfold w_X6_nourish
  refine sp_X6_standsOn hc (fun z => ?_) (fun z => ?_)
  · have e1 := (S.w.p.st c hc).mp z
    rw [if_pos e1] at h
    have v := vp_in_nI hc (show 64 < 2 ^ 31 by omega)
    refine ⟨fun z => absurd z (by decide), fun _ => ⟨v, v, ?_⟩⟩
    rw [nI_clamp (show c < 2 ^ 31 by omega)]
    have F : Fr b M N (am_u M (1, b, 9) c (M (1, b, 9) c + x)) N := Fr.u (by decide) _
    refine h _ _ F (fun i hi => am_u_o M c _ (cell_ne hi)) (S.nx F ?_)
    refine RelW.putP hcb S.w (fun i hi => am_u_o M c _ (cell_ne (by omega))) (fun _ _ => rfl) (fun i hi _ => pk_un (by omega)) ?_
    rw [am_u_c, am_u_o M c _ (cell_ne (show 7 ≠ 9 by omega)), am_u_o M c _ (cell_ne (show 8 ≠ 9 by omega)), am_u_o M c _ (cell_ne (show 10 ≠ 9 by omega)), am_u_o M c _ (cell_ne (show 11 ≠ 9 by omega)), am_u_o M c _ (cell_ne (show 12 ≠ 9 by omega)), am_u_o M c _ (cell_ne (show 6 ≠ 9 by omega))]
    have R := S.w.p
    refine ⟨fun i hi => ?_, fun i hi => ?_, fun i hi => ?_, fun i hi => ?_, fun i hi => ?_, fun i hi => ?_, ?_⟩
    · rw [pk_un (by omega)]; exact R.st i hi
    · rw [pk_un (by omega), pk_un (by omega)]; exact R.il i hi
    · rw [pk_un (show 192 + i ≠ 448 + c by omega), pk_un (show 256 + i ≠ 448 + c by omega), pk_un (show 384 + i ≠ 448 + c by omega)]
      intro y
      refine ⟨(R.sz i hi y).1, (R.sz i hi y).2.1, ?_⟩
      by_cases e : i = c
      · subst e; rw [pk_us, pk_us, (R.sz i hi y).2.2]
      · rw [pk_un e, pk_un (by omega)]; exact (R.sz i hi y).2.2
    · rw [pk_un (show 192 + i ≠ 448 + c by omega)]
      intro z k hk
      rw [pk_un (by omega)]; exact R.sh i hi z k hk
    · rw [pk_un (by omega)]; exact R.sw i hi
    · rw [pk_un (by omega), pk_un (by omega)]; exact R.ba i hi
    · rw [pk_un (by omega)]; exact R.nl
  · rw [if_neg ((tb_st S hc).mp z)] at h
    exact ⟨fun _ => h _ _ Fr.rf (fun _ _ => rfl) S, fun z => absurd rfl z⟩
theorem c_marksOn (S : StC b bk cn full but M N f fe lo) (hc : c < 64) (h : postI (f (512 + c)) M N) : w_X6_marksOn b (nI c) M N postI := by
  unfold w_X6_marksOn
  refine eq_X11_isCell.mpr ?_
  rw [am_bt ⟨nI_pos' (by omega), nI_le (b := 63) (by omega) (by omega)⟩, nI_clamp (show c < 2 ^ 31 by omega), S.w.p.sw c hc]
  exact ⟨fun z => absurd z (by decide), fun _ => ⟨vp_in_nI hc (by omega), h⟩⟩
end PL
