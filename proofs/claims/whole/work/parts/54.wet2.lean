/-! ===== rain, flow and dry of both sides ===== -/
theorem rsum_ext {fa fb : Nat → Prop} {ma mb : Nat → Int32} : ∀ {n : Nat}, (∀ r, r < n → (fa r ↔ fb r)) → (∀ r, r < n → fb r → ma r = mb r) → rsum fa ma n = rsum fb mb n
  | 0, _, _ => rfl
  | n + 1, h1, h2 => by
    have ih := rsum_ext (n := n) (fun r hr => h1 r (by omega)) (fun r hr => h2 r (by omega))
    by_cases e : fb n
    · rw [rsum_t ((h1 n (by omega)).mpr e), rsum_t e, ih, h2 n (by omega) e]
    · rw [rsum_f (fun z => e ((h1 n (by omega)).mp z)), rsum_f e, ih]
theorem rfel_ext {fa fb : Nat → Prop} {ma mb : Nat → Int32} : ∀ {n : Nat}, (∀ r, r < n → (fa r ↔ fb r)) → (∀ r, r < n → fb r → ma r = mb r) → rfel fa ma n = rfel fb mb n
  | 0, _, _ => rfl
  | n + 1, h1, h2 => by
    have ih := rfel_ext (n := n) (fun r hr => h1 r (by omega)) (fun r hr => h2 r (by omega))
    by_cases e : fb n
    · rw [rfel_t ((h1 n (by omega)).mpr e), rfel_t e, ih, h2 n (by omega) e]
    · rw [rfel_f (fun z => e ((h1 n (by omega)).mp z)), rfel_f e, ih]
theorem rsum_more {fa : Nat → Prop} {mu : Nat → Int32} {n : Nat} : ∀ (j : Nat), (∀ r, n ≤ r → r < n + j → ¬ fa r) → rsum fa mu (n + j) = rsum fa mu n
  | 0, _ => rfl
  | j + 1, h => by
    rw [← Nat.add_assoc, rsum_f (h (n + j) (by omega) (by omega))]
    exact rsum_more j (fun r h1 h2 => h r h1 (by omega))
noncomputable def rsN (fa : Nat → Prop) (mu : Nat → Nat) : Nat → Nat
  | 0 => 0
  | n + 1 => @ite Nat (fa n) (Classical.propDecidable _) (rsN fa mu n + mu n) (rsN fa mu n)
theorem rsN_le {fa : Nat → Prop} {mu : Nat → Nat} : ∀ {n : Nat}, (∀ r, r < n → mu r ≤ 99) → rsN fa mu n ≤ 99 * n
  | 0, _ => Nat.le_refl _
  | n + 1, h => by
    have ih := rsN_le (fa := fa) (n := n) (fun r hr => h r (by omega))
    have h1 := h n (by omega)
    unfold rsN
    by_cases e : fa n
    · rw [if_pos e]; omega
    · rw [if_neg e]; omega
theorem rsum_N {fa : Nat → Prop} {mu : Nat → Nat} : ∀ n, rsum fa (fun r => nI (mu r)) n = nI (rsN fa mu n)
  | 0 => rfl
  | n + 1 => by
    have ih := rsum_N (fa := fa) (mu := mu) n
    unfold rsN
    by_cases e : fa n
    · rw [rsum_t e, ih, if_pos e, nI_add]
    · rw [rsum_f e, ih, if_neg e]
theorem rfel_N {fa : Nat → Prop} {mu : Nat → Nat} : ∀ n, n ≤ 30 → (∀ r, r < n → mu r ≤ 99) → rfel fa (fun r => nI (mu r)) n = lN (64 * rsN fa mu n)
  | 0, _, _ => rfl
  | n + 1, hn, h => by
    have ih := rfel_N (fa := fa) (mu := mu) n (by omega) (fun r hr => h r (by omega))
    have h1 := h n (by omega)
    unfold rsN
    by_cases e : fa n
    · rw [rfel_t e, ih, if_pos e, xm64, nI_l (by omega), lN_add, Nat.mul_add]
    · rw [rfel_f e, ih, if_neg e]
theorem flow_nat (hgt wet : Nat → Int32) (t : Nat → Nat) (ht : ∀ c, c < 64 → wet c = nI (t c)) (hT : ∀ c, c < 64 → t c < 2 ^ 31) : ∀ n, n ≤ 64 → ∃ g l : Nat → Nat, (∀ i, flowC hgt wet n i = nI (g i) - nI (l i)) ∧ (∀ i, l i ≤ if i < n then t i else 0) ∧ sumN g 64 = sumN l 64
  | 0, _ => ⟨fun _ => 0, fun _ => 0, fun _ => by show (0 : Int32) = nI 0 - nI 0; rw [Int32.sub_self], fun _ => Nat.zero_le _, rfl⟩
  | n + 1, hn => by
    obtain ⟨g, l, h1, h2, h3⟩ := flow_nat hgt wet t ht hT n (by omega)
    have hm : ∀ i, l i ≤ if i < n + 1 then t i else 0 := fun i => by
      have := h2 i
      by_cases e : i < n
      · rw [if_pos e] at this; rw [if_pos (by omega)]; exact this
      · rw [if_neg e] at this; omega
    unfold flowC
    by_cases e1 : wet n ≤ 100
    · rw [if_pos e1]
      exact ⟨g, l, h1, hm, h3⟩
    · rw [if_neg e1]
      by_cases e2 : hgt (lowC hgt n 4) < hgt n
      · rw [if_pos e2]
        have hn64 : n < 64 := by omega
        have hlow : lowC hgt n 4 < 64 := lowC_lt hgt hn64
        have hne : lowC hgt n 4 ≠ n := fun e => by rw [e] at e2; exact Int32.lt_irrefl e2
        have htn := hT n hn64
        have h100 : 100 < t n := by
          rw [ht n hn64] at e1
          exact Classical.byContradiction fun z => e1 (nI_le (b := 100) (by omega) (by omega))
        have hx : (wet n - 100) / 2 = nI ((t n - 100) / 2) := by
          rw [ht n hn64]
          show (nI (t n) - nI 100) / nI 2 = _
          rw [pk_sub (by omega), pk_div (by omega) (by omega) (by omega)]
        have hl0 : l n = 0 := by
          have := h2 n
          rw [if_neg (Nat.lt_irrefl _)] at this
          omega
        rw [hx]
        refine ⟨updN g (lowC hgt n 4) (g (lowC hgt n 4) + (t n - 100) / 2), updN l n ((t n - 100) / 2), fun i => ?_, fun i => ?_, ?_⟩
        · by_cases ei : i = lowC hgt n 4
          · subst ei
            rw [pk_us, pk_un hne, h1]
            unfold updN
            rw [if_pos rfl, if_neg hne, ← nI_add]
            rw [Int32.sub_eq_add_neg, Int32.sub_eq_add_neg, Int32.add_assoc, Int32.add_assoc, Int32.add_comm (-nI _)]
          · rw [pk_un ei]
            by_cases ei2 : i = n
            · subst ei2
              rw [pk_us, h1]
              unfold updN
              rw [if_neg ei, if_pos rfl, hl0]
              show nI (g i) - 0 - _ = _
              rw [Int32.sub_zero]
            · rw [pk_un ei2, h1]
              unfold updN
              rw [if_neg ei, if_neg ei2]
        · unfold updN
          by_cases ei : i = n
          · subst ei
            rw [if_pos rfl, if_pos (by omega)]; omega
          · rw [if_neg ei]; exact hm i
        · have s1 := sumN_upd g (j := lowC hgt n 4) (g (lowC hgt n 4) + (t n - 100) / 2) 64 hlow
          have s2 := sumN_upd l (j := n) ((t n - 100) / 2) 64 hn64
          omega
      · rw [if_neg e2]
        exact ⟨g, l, h1, hm, h3⟩
/-- the pure steps -/
def fallB (bk : Bk) (but : Nat → Nat → Prop) (now : Int32) (r : Nat) : Prop := ¬ but 0 r ∧ nI (bk.rF r) ≤ now ∧ now ≤ nI (bk.rT r)
noncomputable def rainF (bk : Bk) (but : Nat → Nat → Prop) (cn : Cn) (f : Nat → Int32) : Nat → Int32 := setW f (allW (getW f) (rsum (fallB bk but (f 1624)) (fun r => nI (bk.rM r)) cn.r) 64)
noncomputable def rainE (bk : Bk) (but : Nat → Nat → Prop) (cn : Cn) (f : Nat → Int32) : Int64 := rfel (fallB bk but (f 1624)) (fun r => nI (bk.rM r)) cn.r
def flowF (f : Nat → Int32) : Nat → Int32 := setW f (addW (getW f) (flowC f (getW f) 64) 64)
def dryF (f : Nat → Int32) : Nat → Int32 := setW f (dryW (getW f) 64)
def dryE (f : Nat → Int32) : Int64 := dryL (getW f) 64
section WE
variable {M : am_I} {N : am_N} {b : Nat} {bk : Bk} {cn full : Cn} {but : Nat → Nat → Prop} {f : Nat → Int32} {fe lo : Int64} {W : Nat} {post : am_I → am_N → Prop}
theorem rainF_good (G : GoodF W cn f) (hB : BkGood bk cn) (hW : W + 190080 < 2 ^ 31) : GoodF (W + 190080) cn (rainF bk but cn f) := by
  obtain ⟨t, h1, h2⟩ := G.g.we
  refine G.wet hW ⟨fun c => t c + rsN (fallB bk but (f 1624)) bk.rM cn.r, fun c hc => ?_, ?_⟩
  · unfold allW addW getW
    rw [if_pos hc, h1 c hc, rsum_N, nI_add]
  · have h3 := rsN_le (fa := fallB bk but (f 1624)) (mu := bk.rM) (n := cn.r) (fun r hr => (hB.rM r hr).2.2.2)
    have h4 := G.b.1
    rw [sumN_cst]
    omega
theorem flowF_good (G : GoodF W cn f) : GoodF W cn (flowF f) := by
  obtain ⟨t, h1, h2⟩ := G.g.we
  have hT : ∀ c, c < 64 → t c < 2 ^ 31 := fun c hc => by have := sumN_ge t hc; have := G.W; omega
  obtain ⟨g, l, q1, q2, q3⟩ := flow_nat f (getW f) t h1 hT 64 (Nat.le_refl _)
  have hl : ∀ c, c < 64 → l c ≤ t c := fun c hc => by have := q2 c; rw [if_pos hc] at this; exact this
  refine G.wet G.W ⟨fun c => t c + g c - l c, fun c hc => ?_, ?_⟩
  · unfold addW
    rw [if_pos hc, q1]
    show f (64 + c) + _ = _
    rw [h1 c hc, ← pk_sub (by have := hl c hc; omega), ← nI_add, Int32.sub_eq_add_neg, Int32.sub_eq_add_neg, Int32.add_assoc]
  · have := sumN_agl t g l 64 hl
    omega
theorem dryF_good (G : GoodF W cn f) : GoodF W cn (dryF f) := by
  obtain ⟨t, h1, h2⟩ := G.g.we
  have hT : ∀ c, c < 64 → t c < 2 ^ 31 := fun c hc => by have := sumN_ge t hc; have := G.W; omega
  refine G.wet G.W ⟨fun c => t c - 1, fun c hc => ?_, ?_⟩
  · unfold dryW getW
    rw [if_pos hc, h1 c hc]
    by_cases e : t c = 0
    · show _ = nI (t c - 1)
      rw [e, if_pos nI_0]
    · rw [if_neg (nI_ne0 (by omega) (hT c hc))]
      have : t c = (t c - 1) + 1 := by omega
      show nI (t c) - 1 = nI (t c - 1)
      rw [this, nI_pred, Nat.add_sub_cancel]
  · exact Nat.le_trans (sumN_mono (t := t) (fun c _ => Nat.sub_le _ _)) h2
theorem r_rains (S : StM bk cn but M N f fe lo) (hcb : CnB cn) (hn : GN cn f) (h : ∀ M' N', FrM M N M' N' → StM bk cn but M' N' (rainF bk but cn f) (fe + rainE bk but cn f) lo → post M' N') : w_X12_rains M N post := by
  have h30 := hcb.1
  refine sp_X12_rains (n := cn.r) h30 (by rw [S.f]; exact hn.r) ?_
  rw [S.f]
  have e1 : ∀ r, r < cn.r → (fallM M (f 1624) r ↔ fallB bk but (f 1624) r) := fun r hr => by
    unfold fallM fallB
    obtain ⟨q1, q2, q3⟩ := S.k.r r hr
    rw [q1, q2, ← S.but 0 r (by omega) (by omega)]
    rfl
  have e2 : ∀ r, r < cn.r → fallB bk but (f 1624) r → M (3, 0, 10) r = nI (bk.rM r) := fun r hr _ => (S.k.r r hr).2.2
  rw [rsum_ext e1 e2, rfel_ext e1 e2, S.fe]
  exact h _ _ (FrM.tr (FrM.s _) (FrM.n (Or.inl rfl) _)) ((S.nf _).nfe _)
theorem r_flows (S : StM bk cn but M N f fe lo) (h : ∀ M' N', FrM M N M' N' → StM bk cn but M' N' (flowF f) fe lo → post M' N') : w_X12_flows M N post := by
  refine sp_X12_flows (fun ch => ?_)
  rw [S.f]
  exact h _ _ (FrM.tr (FrM.x (i := 26) (by omega) (by omega) _) (FrM.s _)) ((S.nx1 (i := 26) (by omega) (by omega) ch).nf _)
theorem r_dries (S : StM bk cn but M N f fe lo) (h : ∀ M' N', FrM M N M' N' → StM bk cn but M' N' (dryF f) fe (lo + dryE f) → post M' N') : w_X12_dries M N post := by
  refine sp_X12_dries ?_
  rw [S.f, S.lo]
  exact h _ _ (FrM.tr (FrM.s _) (FrM.n (Or.inr rfl) _)) ((S.nf _).nlo _)
theorem c_rain (S : StC b bk cn full but M N f fe lo) (hcb : CnB cn) (hB : BkGood bk cn) {out : Int32} (hout : ∀ r, r < 64 → (nI r = out ↔ but 0 r)) (hun : ∀ r, cn.r ≤ r → r < full.r → ¬ M (2, 1, 1) (r * 3) ≤ f 1624)
    (h : ∀ M' N', Fr b M N M' N' → StC b bk cn full but M' N' (rainF bk but cn f) (fe + rainE bk but cn f) lo → post M' N') : w_X0_fallingAt (f 1624) out M N (fun r M' N' => w_X2_rainOn b r M' N' post) := by
  have h30 := S.fb.1
  have hle := S.k.le.1
  refine sp_X0_fallingAt (n := full.r) S.k.t1 ?_
  have hj : full.r = cn.r + (full.r - cn.r) := by omega
  rw [hj, rsum_more (full.r - cn.r) (fun r h1 h2 => by unfold fallC; exact fun z => hun r h1 (by omega) z.2.1)]
  have e1 : ∀ r, r < cn.r → (fallC M (f 1624) out r ↔ fallB bk but (f 1624) r) := fun r hr => by
    unfold fallC fallB
    obtain ⟨q1, q2, q3⟩ := S.k.r r hr
    rw [Nat.add_zero] at q1
    rw [q1, q2, hout r (by omega)]
  have e2 : ∀ r, r < cn.r → fallB bk but (f 1624) r → (fun r => M (2, 1, 1) (r * 3 + 2)) r = nI (bk.rM r) := fun r hr _ => (S.k.r r hr).2.2
  rw [rsum_ext e1 e2]
  refine sp_X2_rainOn ?_
  have hm : ∀ r, r < cn.r → bk.rM r ≤ 99 := fun r hr => (hB.rM r hr).2.2.2
  have hs := rsN_le (fa := fallB bk but (f 1624)) hm
  have e3 : (rsum (fallB bk but (f 1624)) (fun r => nI (bk.rM r)) cn.r).toInt64 * 64 = rainE bk but cn f := by
    unfold rainE
    rw [rfel_N cn.r (by omega) hm, rsum_N, nI_l (by omega)]
    show _ * lN 64 = _
    rw [lN_mul, Nat.mul_comm]
  rw [e3, S.w.fe]
  have F : Fr b M N (am_s M (1, b, 3) (allW (M (1, b, 3)) (rsum (fallB bk but (f 1624)) (fun r => nI (bk.rM r)) cn.r) 64)) (am_ul N (1, b, 1) 4 (fe + rainE bk but cn f)) := (Fr.s (by decide) _).tr (Fr.ul _)
  refine h _ _ F (S.nx F ((RelW.wet hcb S.w (fun c hc => ?_)).fel _))
  unfold allW addW getW
  rw [if_pos hc, if_pos hc, S.w.g.we c hc]
theorem lowC_cg {h1 h2 : Nat → Int32} (e : ∀ c, c < 64 → h1 c = h2 c) {c : Nat} (hc : c < 64) : ∀ k, k ≤ 4 → lowC h1 c k = lowC h2 c k ∧ lowC h2 c k < 64
  | 0, _ => ⟨rfl, hc⟩
  | k + 1, hk => by
    obtain ⟨ih, il⟩ := lowC_cg e hc k (by omega)
    unfold lowC
    cases hb : besN c k with
    | none => exact ⟨ih, il⟩
    | some x =>
      have hx := besN_lt c hc k (by omega) x hb
      dsimp only
      rw [ih, e x hx, e _ il]
      refine ⟨rfl, ?_⟩
      by_cases z : h2 x < h2 (lowC h2 c k)
      · rw [if_pos z]; exact hx
      · rw [if_neg z]; exact il
theorem flowC_cg {h1 h2 w1 w2 : Nat → Int32} (e : ∀ c, c < 64 → h1 c = h2 c) (ew : ∀ c, c < 64 → w1 c = w2 c) : ∀ n, n ≤ 64 → flowC h1 w1 n = flowC h2 w2 n
  | 0, _ => rfl
  | n + 1, hn => by
    have ih := flowC_cg e ew n (by omega)
    obtain ⟨hl, hl2⟩ := lowC_cg e (c := n) (by omega) 4 (Nat.le_refl _)
    unfold flowC
    rw [ih, ew n (by omega), hl, e n (by omega), e _ hl2]
theorem c_flow (S : StC b bk cn full but M N f fe lo) (hcb : CnB cn) (h : ∀ M' N', Fr b M N M' N' → StC b bk cn full but M' N' (flowF f) fe lo → post M' N') : w_X2_flow b M N post := by
  refine sp_X2_flow (fun ch => ?_)
  have F : Fr b M N (am_s (am_s M (1, b, 5) ch) (1, b, 3) (addW (M (1, b, 3)) (flowC (M (1, b, 2)) (M (1, b, 3)) 64) 64)) N := (Fr.s (by decide) _).tr (Fr.s (by decide) _)
  have R0 : RelW b cn but (am_s M (1, b, 5) ch) N f fe lo := S.w.mem (fun i h5 _ _ => am_s_other M ch (by simp only [ne_eq, Prod.mk.injEq, true_and]; exact h5)) (fun _ _ => rfl)
  refine h _ _ F (S.nx F (RelW.wet hcb R0 (fun c hc => ?_)))
  unfold addW getW
  rw [if_pos hc, if_pos hc, S.w.g.we c hc, flowC_cg S.w.g.hg S.w.g.we 64 (Nat.le_refl _)]
theorem dryL_cg {w1 w2 : Nat → Int32} (ew : ∀ c, c < 64 → w1 c = w2 c) : ∀ n, n ≤ 64 → dryL w1 n = dryL w2 n
  | 0, _ => rfl
  | n + 1, hn => by
    unfold dryL
    rw [dryL_cg ew n (by omega), ew n (by omega)]
theorem c_dry (S : StC b bk cn full but M N f fe lo) (G : GoodF W cn f) (h : ∀ M' N', Fr b M N M' N' → StC b bk cn full but M' N' (dryF f) fe (lo + dryE f) → post M' N') : w_X2_dry b M N post := by
  obtain ⟨t, h1, h2⟩ := G.g.we
  refine sp_X2_dry (fun c hc => ?_) ?_
  · rw [S.w.g.we c hc, h1 c hc]
    have := sumN_ge t hc
    have := G.W
    exact nI_pos' (by omega)
  · have e3 : dryL (M (1, b, 3)) 64 = dryE f := dryL_cg S.w.g.we 64 (Nat.le_refl _)
    rw [e3, S.w.lo]
    have F : Fr b M N (am_s M (1, b, 3) (dryW (M (1, b, 3)) 64)) (am_ul N (1, b, 1) 5 (lo + dryE f)) := (Fr.s (by decide) _).tr (Fr.ul _)
    refine h _ _ F (S.nx F ((RelW.wet G.b S.w (fun c hc => ?_)).los _))
    unfold dryW getW
    rw [if_pos hc, if_pos hc, S.w.g.we c hc]
end WE
