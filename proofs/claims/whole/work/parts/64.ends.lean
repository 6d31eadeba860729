/-! ===== the end of a day: the reference ===== -/
theorem nar_b1 : vp_nar .boolean 1 = 1 := rfl
theorem nar_b0 : vp_nar .boolean 0 = 0 := rfl
def drownF (f : Nat → Int32) : Nat → Nat → Int32
  | 0 => f
  | n + 1 => if drownF f n (64 + n) ≤ 600 then drownF f n else dieI (drownF f n) n 4
def sickF (g : Nat → Int32) (c : Nat) : Prop := g (192 + c) = 1 ∧ g (320 + c) = 1
/-- a lot is drawn -/
def drawF (f : Nat → Int32) : Nat → Int32 := upd f 1625 (if f 1625 + 1 < f 1633 then f 1625 + 1 else 0)
def drawV (bk : Bk) (f : Nat → Int32) : Int32 := nI (bk.lo (f 1625).toNatClampNeg)
def spL (bk : Bk) (c : Nat) (f : Nat → Int32) : Nat → Int32 := if f 1628 ≤ drawV bk f then drawF f else upd (drawF f) (320 + c) 1
noncomputable def spN1 (bk : Bk) (g : Nat → Int32) (c : Nat) (f : Nat → Int32) : Option Nat → Nat → Int32
  | none => f
  | some n => pick (sickF g n) (spL bk c f) f
noncomputable def spK (bk : Bk) (g : Nat → Int32) (c : Nat) (f : Nat → Int32) : Nat → Nat → Int32
  | 0 => f
  | k + 1 => spN1 bk g c (spK bk g c f k) (besN c k)
noncomputable def spC (bk : Bk) (g : Nat → Int32) : Nat → Nat → Int32
  | 0 => g
  | c + 1 => pick (g (192 + c) = 1 ∧ ¬ sickF g c) (spK bk g c (spC bk g c) 4) (spC bk g c)
noncomputable def spreadF (bk : Bk) (cn : Cn) (g : Nat → Int32) : Nat → Int32 := if cn.l = 0 then g else spC bk g 64
def growA (f : Nat → Int32) (c : Nat) : Int32 := if 50 ≤ f (64 + c) ∧ f (64 + c) ≤ 300 then 2 else 1
def growF (f : Nat → Int32) : Nat → Nat → Int32
  | 0 => f
  | n + 1 => if f (192 + n) = 1 then upd (growF f n) (256 + n) (f (256 + n) + growA f n) else growF f n
noncomputable def endsF (bk : Bk) (cn : Cn) (f : Nat → Int32) : Nat → Int32 := growF (spreadF bk cn (drownF f 64)) 64
theorem drownF_o {f : Nat → Int32} {i : Nat} : ∀ {n : Nat}, n ≤ 64 → ¬ (192 ≤ i ∧ i < 192 + n) → ¬ (576 ≤ i ∧ i < 576 + n) → drownF f n i = f i
  | 0, _, _, _ => rfl
  | n + 1, hn, h1, h2 => by
    have ih := drownF_o (f := f) (i := i) (n := n) (by omega) (by omega) (by omega)
    unfold drownF
    by_cases e : drownF f n (64 + n) ≤ 600
    · rw [if_pos e, ih]
    · rw [if_neg e, dieI_o (by omega) (by omega), ih]
/-- what a spreading step changes: ill, to 1, and the next lot -/
def spO (f f' : Nat → Int32) (c : Nat) : Prop := (∀ i, i ≠ 1625 → i ≠ 320 + c → f' i = f i) ∧ (f' (320 + c) = f (320 + c) ∨ f' (320 + c) = 1)
theorem spO.rf {f : Nat → Int32} {c : Nat} : spO f f c := ⟨fun _ _ _ => rfl, Or.inl rfl⟩
theorem spO.tr {f g h : Nat → Int32} {c : Nat} (h1 : spO f g c) (h2 : spO g h c) : spO f h c := by
  refine ⟨fun i a1 a2 => (h2.1 i a1 a2).trans (h1.1 i a1 a2), ?_⟩
  rcases h2.2 with e | e
  · rw [e]; exact h1.2
  · exact Or.inr e
theorem spL_o {bk : Bk} {f : Nat → Int32} {c : Nat} (hc : c < 64) : spO f (spL bk c f) c := by
  unfold spL drawF
  by_cases e : f 1628 ≤ drawV bk f
  · rw [if_pos e]
    exact ⟨fun i a1 a2 => pk_un a1, Or.inl (pk_un (by omega))⟩
  · rw [if_neg e]
    exact ⟨fun i a1 a2 => by rw [pk_un a2, pk_un a1], Or.inr pk_us⟩
theorem spN1_o {bk : Bk} {g f : Nat → Int32} {c : Nat} (hc : c < 64) (r : Option Nat) : spO f (spN1 bk g c f r) c := by
  cases r with
  | none => exact spO.rf
  | some n =>
    by_cases e : sickF g n
    · show spO f (pick _ _ _) c
      rw [pick_t e]; exact spL_o hc
    · show spO f (pick _ _ _) c
      rw [pick_f e]; exact spO.rf
theorem spK_o {bk : Bk} {g f : Nat → Int32} {c : Nat} (hc : c < 64) : ∀ k, spO f (spK bk g c f k) c
  | 0 => spO.rf
  | k + 1 => (spK_o hc k).tr (spN1_o hc _)
theorem spC_o {bk : Bk} {g : Nat → Int32} : ∀ {n : Nat}, n ≤ 64 → (∀ i, i ≠ 1625 → ¬ (320 ≤ i ∧ i < 320 + n) → spC bk g n i = g i) ∧ (∀ c, c < 64 → spC bk g n (320 + c) = g (320 + c) ∨ spC bk g n (320 + c) = 1)
  | 0, _ => ⟨fun _ _ _ => rfl, fun _ _ => Or.inl rfl⟩
  | n + 1, hn => by
    obtain ⟨h1, h2⟩ := spC_o (bk := bk) (g := g) (n := n) (by omega)
    obtain ⟨k1, k2⟩ := spK_o (bk := bk) (g := g) (f := spC bk g n) (c := n) (by omega) 4
    unfold spC
    by_cases e : g (192 + n) = 1 ∧ ¬ sickF g n
    · rw [pick_t e]
      refine ⟨fun i a1 a2 => (k1 i a1 (by omega)).trans (h1 i a1 (by omega)), fun c hc => ?_⟩
      by_cases ec : c = n
      · subst ec
        rcases k2 with z | z
        · rw [z]; exact h2 c hc
        · exact Or.inr z
      · rw [k1 _ (by omega) (by omega)]; exact h2 c hc
    · rw [pick_f e]
      exact ⟨fun i a1 a2 => h1 i a1 (by omega), h2⟩
theorem growF_o {f : Nat → Int32} {i : Nat} : ∀ {n : Nat}, ¬ (256 ≤ i ∧ i < 256 + n) → growF f n i = f i
  | 0, _ => rfl
  | n + 1, h => by
    have ih := growF_o (f := f) (i := i) (n := n) (by omega)
    unfold growF
    by_cases e : f (192 + n) = 1
    · rw [if_pos e, pk_un (by omega), ih]
    · rw [if_neg e, ih]
/-- the next lot stays in order -/
def nlOK (cn : Cn) (f : Nat → Int32) : Prop := ∃ j, f 1625 = nI j ∧ (j < cn.l ∨ j = 0)
section EN
variable {M M' : am_I} {N N' : am_N} {b : Nat} {bk : Bk} {cn full : Cn} {but : Nat → Nat → Prop} {f f' g : Nat → Int32} {fe lo : Int64} {W q c w goal : Nat} {post : am_I → am_N → Prop} {postI : Int32 → am_I → am_N → Prop}
theorem drawF_nl (hl : cn.l ≤ 40) (h : nlOK cn f) (hn : f 1633 = nI cn.l) : nlOK cn (drawF f) := by
  obtain ⟨j, e, hj⟩ := h
  unfold drawF nlOK
  rw [pk_us]
  by_cases z : f 1625 + 1 < f 1633
  · rw [if_pos z]
    rw [e, hn, nI_1] at z
    rw [e, nI_1]
    exact ⟨j + 1, rfl, Or.inl ((nI_ltI (by omega) (by omega)).mp z)⟩
  · rw [if_neg z]
    exact ⟨0, rfl, Or.inr rfl⟩
theorem spL_nl (hc : c < 64) (hl : cn.l ≤ 40) (h : nlOK cn f) (hn : f 1633 = nI cn.l) : nlOK cn (spL bk c f) := by
  have := drawF_nl hl h hn
  unfold spL
  by_cases e : f 1628 ≤ drawV bk f
  · rw [if_pos e]; exact this
  · rw [if_neg e]
    unfold nlOK
    rw [pk_un (by omega)]
    exact this
theorem spN1_nl (hc : c < 64) (hl : cn.l ≤ 40) (h : nlOK cn f) (hn : f 1633 = nI cn.l) (r : Option Nat) : nlOK cn (spN1 bk g c f r) := by
  cases r with
  | none => exact h
  | some n =>
    show nlOK cn (pick _ _ _)
    by_cases e : sickF g n
    · rw [pick_t e]; exact spL_nl hc hl h hn
    · rw [pick_f e]; exact h
theorem spK_nl (hc : c < 64) (hl : cn.l ≤ 40) (h : nlOK cn f) (hn : f 1633 = nI cn.l) : ∀ k, nlOK cn (spK bk g c f k)
  | 0 => h
  | k + 1 => spN1_nl hc hl (spK_nl hc hl h hn k) (by rw [(spK_o hc k).1 _ (by omega) (by omega)]; exact hn) _
theorem spC_nl (hl : cn.l ≤ 40) (h : nlOK cn g) (hn : g 1633 = nI cn.l) : ∀ n, n ≤ 64 → nlOK cn (spC bk g n)
  | 0, _ => h
  | n + 1, hh => by
    have ih := spC_nl hl h hn n (by omega)
    unfold spC
    by_cases e : g (192 + n) = 1 ∧ ¬ sickF g n
    · rw [pick_t e]
      exact spK_nl (by omega) hl ih (by rw [(spC_o (bk := bk) (g := g) (n := n) (by omega)).1 _ (by omega) (by omega)]; exact hn) 4
    · rw [pick_f e]; exact ih
theorem drownF_good (G : GoodF W cn f) : ∀ n, n ≤ 64 → GoodF W cn (drownF f n)
  | 0, _ => G
  | n + 1, hn => by
    have ih := drownF_good G n (by omega)
    unfold drownF
    by_cases e : drownF f n (64 + n) ≤ 600
    · rw [if_pos e]; exact ih
    · rw [if_neg e]; exact dieI_good ih (by omega)
theorem spC_good (G : GoodF W cn g) {n : Nat} (hn : n ≤ 64) : GoodF W cn (spC bk g n) := by
  obtain ⟨h1, h2⟩ := spC_o (bk := bk) (g := g) hn
  refine G.putP (fun i hi h5 => h1 i h5 (by omega)) ⟨fun i hi => ?_, fun i hi => ?_, fun i hi k hk hn => ?_, ?_⟩
  · rw [h1 _ (by omega) (by omega)]; exact G.p.st i hi
  · rcases h2 i hi with e | e
    · rw [e]; exact G.p.il i hi
    · exact Or.inr e
  · rw [h1 _ (by omega) (by omega)]; exact G.p.sh i hi k hk hn
  · exact spC_nl G.b.2.2.2.1 G.p.nl G.n.l n hn
theorem spreadF_good (G : GoodF W cn g) : GoodF W cn (spreadF bk cn g) := by
  unfold spreadF
  by_cases e : cn.l = 0
  · rw [if_pos e]; exact G
  · rw [if_neg e]; exact spC_good G (Nat.le_refl _)
theorem growF_good (G : GoodF W cn f) {n : Nat} (hn : n ≤ 64) : GoodF W cn (growF f n) :=
  G.putP (fun i hi _ => growF_o (by omega)) (G.p.cg' (fun i hi => growF_o (by omega)) (fun i hi => growF_o (by omega)) (fun i h1 h2 => growF_o (by omega)) (growF_o (by omega)))
theorem endsF_good (G : GoodF W cn f) : GoodF W cn (endsF bk cn f) := growF_good (spreadF_good (drownF_good G 64 (Nat.le_refl _))) (Nat.le_refl _)
theorem spreadF_o {i : Nat} (h1 : i ≠ 1625) (h2 : ¬ (320 ≤ i ∧ i < 384)) : spreadF bk cn g i = g i := by
  unfold spreadF
  by_cases e : cn.l = 0
  · rw [if_pos e]
  · rw [if_neg e]; exact (spC_o (Nat.le_refl _)).1 i h1 (by omega)
theorem endsF_o {i : Nat} (h1 : i ≠ 1625) (h2 : ¬ (192 ≤ i ∧ i < 960)) : endsF bk cn f i = f i := by
  unfold endsF
  rw [growF_o (by omega), spreadF_o h1 (by omega), drownF_o (Nat.le_refl _) (by omega) (by omega)]
theorem endsF_BO (h8 : cn.c ≤ 8) (h : BO cn but f) : BO cn but (endsF bk cn f) := fun q hq hb => by
  rw [endsF_o (by omega) (by omega)]
  exact h q hq hb
/-- the reference: a lot -/
theorem r_lotIsLow (S : StM bk cn but M N f fe lo) (hcb : CnB cn) (hn : f 1633 = nI cn.l) (hnl : nlOK cn f) (hl0 : cn.l ≠ 0) (h1 : ¬ f 1628 ≤ drawV bk f → ∀ M' N', FrM M N M' N' → M' (3, 0, 27) = M (3, 0, 27) → M' (3, 0, 28) = M (3, 0, 28) → StM bk cn but M' N' (drawF f) fe lo → postI 1 M' N') (h0 : f 1628 ≤ drawV bk f → ∀ M' N', FrM M N M' N' → M' (3, 0, 27) = M (3, 0, 27) → M' (3, 0, 28) = M (3, 0, 28) → StM bk cn but M' N' (drawF f) fe lo → postI 0 M' N') : w_X12_lotIsLow M N postI := by
  have hl := hcb.2.2.2.1
  obtain ⟨j, e, hj⟩ := hnl
  have hj' : j < cn.l := by omega
  have ev : drawV bk f = nI (bk.lo j) := by unfold drawV; rw [e, nI_clamp (by omega)]
  unfold w_X12_lotIsLow
  rw [S.f, e, nI_clamp (show j < 2 ^ 31 by omega), S.k.l j hj']
  refine ⟨vp_in_nI (by omega) (by omega), fun v hv => ?_⟩
  subst hv
  have S1 := S.u 1625 (nI j + 1)
  rw [S1.f, pk_us, pk_un (show 1633 ≠ 1625 by omega)]
  rw [ev] at h1 h0
  unfold drawF at h1 h0
  rw [e] at h1 h0
  have fin : ∀ x : Int32, (if nI j + 1 < f 1633 then nI j + 1 else 0) = x → ∀ M1, FrM M N M1 N → M1 (3, 0, 27) = M (3, 0, 27) → M1 (3, 0, 28) = M (3, 0, 28) → StM bk cn but M1 N (upd f 1625 x) fe lo → w_X12_lotIsLow_p54 postI (nI (bk.lo j)) M1 N := by
    intro x ex M1 F1 a1 a2 T1
    subst ex
    unfold w_X12_lotIsLow_p54
    rw [T1.f, pk_un (show 1628 ≠ 1625 by omega)]
    exact ⟨fun z => h0 z _ _ F1 a1 a2 T1, fun z => h1 z _ _ F1 a1 a2 T1⟩
  refine ⟨fun z => fin _ (if_pos z) _ FrM.u (am_u_o _ _ _ (by simp)) (am_u_o _ _ _ (by simp)) S1, fun z => fin _ (if_neg z) _ (FrM.u.tr FrM.u) ?_ ?_ ?_⟩
  · rw [am_u_o _ _ _ (by simp), am_u_o _ _ _ (by simp)]
  · rw [am_u_o _ _ _ (by simp), am_u_o _ _ _ (by simp)]
  · have S2 := S1.u 1625 0
    have eu : upd (upd f 1625 (nI j + 1)) 1625 0 = upd f 1625 0 := by
      funext i
      by_cases z : i = 1625
      · subst z; rw [pk_us, pk_us]
      · rw [pk_un z, pk_un z, pk_un z]
    rw [eu] at S2
    exact S2
/-- the field with those that fall ill -/
def mixF (fr : Nat → Int32) (fl : Nat → Int32) : Nat → Int32 := fun i => if 320 ≤ i ∧ i < 384 ∧ ¬ fl (i - 320) = 0 then 1 else fr i
theorem mixF_o {fr fl : Nat → Int32} {i : Nat} (h : ¬ (320 ≤ i ∧ i < 384)) : mixF fr fl i = fr i := if_neg (fun z => h ⟨z.1, z.2.1⟩)
theorem mixF_1 {fr fl : Nat → Int32} (hc : c < 64) (h : ¬ fl c = 0) : mixF fr fl (320 + c) = 1 := by
  unfold mixF
  rw [if_pos ⟨by omega, by omega, by rw [show 320 + c - 320 = c by omega]; exact h⟩]
theorem mixF_0 {fr fl : Nat → Int32} (h : fl c = 0) : mixF fr fl (320 + c) = fr (320 + c) := by
  unfold mixF
  rw [if_neg (fun z => z.2.2 (by rw [show 320 + c - 320 = c by omega]; exact h))]
theorem mixF_set {fr fl : Nat → Int32} (hc : c < 64) : mixF fr (upd fl c 1) = upd (mixF fr fl) (320 + c) 1 := by
  funext i
  by_cases e : i = 320 + c
  · subst e
    rw [pk_us]
    unfold mixF
    rw [if_pos ⟨by omega, by omega, by rw [show 320 + c - 320 = c by omega, pk_us]; decide⟩]
  · rw [pk_un e]
    unfold mixF
    by_cases z : 320 ≤ i ∧ i < 384
    · rw [pk_un (show i - 320 ≠ c by omega)]
    · rw [if_neg (fun y => z ⟨y.1, y.2.1⟩), if_neg (fun y => z ⟨y.1, y.2.1⟩)]
theorem mixF_draw {fr fl : Nat → Int32} : mixF (drawF fr) fl = drawF (mixF fr fl) := by
  funext i
  unfold drawF
  rw [mixF_o (i := 1625) (by omega), mixF_o (i := 1633) (by omega)]
  by_cases e : i = 1625
  · subst e
    rw [mixF_o (by omega), pk_us, pk_us]
  · rw [pk_un e]
    unfold mixF
    rw [pk_un e]
theorem mixF_V {fr fl : Nat → Int32} : drawV bk (mixF fr fl) = drawV bk fr := by
  unfold drawV
  rw [mixF_o (i := 1625) (by omega)]
theorem mixF_28 {fr fl : Nat → Int32} : mixF fr fl 1628 = fr 1628 := mixF_o (by omega)
/-- the spreading loops of the reference: a side -/
theorem r_side (hcb : CnB cn) (hg : g 1633 = nI cn.l) (hl0 : cn.l ≠ 0) (hc : c < 64) {zk : Int32 → am_I → am_N → Prop} {wi : Nat → Int32} (hwi : ∀ n, n < 64 → g (192 + n) = 1 → (¬ wi n = 0 ↔ g (320 + n) = 1)) {fb : Nat → Int32} (hfb : nlOK cn fb ∧ ∀ i, i ≠ 1625 → ¬ (320 ≤ i ∧ i < 384) → fb i = g i)
    (h : ∀ M' N' fr fl, FrM M N M' N' → M' (3, 0, 27) = wi → M' (3, 0, 28) = fl → StM bk cn but M' N' fr fe lo → mixF fr fl = spK bk g c fb 4 → (∀ i, i ≠ 1625 → fr i = g i) → (∀ n, n ≠ c → fl n = M (3, 0, 28) n) → zk (nI (c + 1)) M' N') :
    ∀ (j k : Nat), k + j = 4 → ∀ M1 N1 fr fl, FrM M N M1 N1 → M1 (3, 0, 27) = wi → M1 (3, 0, 28) = fl → StM bk cn but M1 N1 fr fe lo → mixF fr fl = spK bk g c fb k → (∀ i, i ≠ 1625 → fr i = g i) → (∀ n, n ≠ c → fl n = M (3, 0, 28) n) → w_X12_ends_p144 post zk (j + 1) (nI c) (nI k) M1 N1 := by
  have hl := hcb.2.2.2.1
  intro j
  induction j with
  | zero =>
    intro k hk M1 N1 fr fl F1 e27 e28 S1 hmix hfr hfl
    have hk' : k = 4 := by omega
    subst hk'
    rw [w_X12_ends_p144_s]
    unfold w_X12_ends_p144_b
    rw [nI_1]
    exact ⟨fun _ => h _ _ _ _ F1 e27 e28 S1 hmix hfr hfl, fun z => absurd (nI_le (a := 4) (b := 4) (by omega) (by omega)) z⟩
  | succ j ih =>
    intro k hk M1 N1 fr fl F1 e27 e28 S1 hmix hfr hfl
    have vc : vp_in (nI c) 64 := vp_in_nI hc (by omega)
    rw [w_X12_ends_p144_s]
    unfold w_X12_ends_p144_b
    rw [S1.f, hfr 1633 (by omega), hg, nI_1, nI_1]
    refine ⟨fun z => absurd z (nI_ge (b := 4) (by omega) (by omega)), fun _ => ⟨fun z => absurd z (nI_nle (by omega) (by omega)), fun _ => (eq_X12_besN hc (by omega)).mpr ?_⟩⟩
    have ih' := ih (k + 1) (by omega)
    have ek : spK bk g c fb (k + 1) = spN1 bk g c (spK bk g c fb k) (besN c k) := rfl
    rw [ek, ← hmix] at ih'
    cases hb : besN c k with
    | none =>
      rw [besV_none hb]
      rw [hb] at ih'
      exact ⟨fun _ => ih' _ _ fr fl F1 e27 e28 S1 rfl hfr hfl, fun z => absurd rfl z⟩
    | some n =>
      have hn := besN_lt c hc k (by omega) n hb
      rw [besV_some hb]
      rw [hb] at ih'
      have ih2 : ∀ M' N' fr' fl', FrM M N M' N' → M' (3, 0, 27) = wi → M' (3, 0, 28) = fl' → StM bk cn but M' N' fr' fe lo → mixF fr' fl' = pick (sickF g n) (spL bk c (mixF fr fl)) (mixF fr fl) → (∀ i, i ≠ 1625 → fr' i = g i) → (∀ n, n ≠ c → fl' n = M (3, 0, 28) n) → w_X12_ends_p144 post zk (j + 1) (nI c) (nI (k + 1)) M' N' := fun M' N' fr' fl' => ih' M' N' fr' fl'
      have i1 : (192 + nI n).toNatClampNeg = 192 + n := by rw [ix192, nI_clamp (by omega)]
      have v1 : vp_in (192 + nI n) 1635 := by rw [ix192]; exact vp_in_nI (by omega) (by omega)
      refine ⟨fun z => absurd z (nI_ne_m1 (by omega)), fun _ => (eq_X12_besN hc (by omega)).mpr ?_⟩
      rw [besV_some hb, nI_clamp (show n < 2 ^ 31 by omega), e27]
      refine ⟨vp_in_nI hn (by omega), fun z => ih2 _ _ fr fl F1 e27 e28 S1 ?_ hfr hfl, fun z => (eq_X12_besN hc (by omega)).mpr ?_⟩
      · rw [pick_f (fun y => (hwi n hn y.1).mpr y.2 z)]
      · rw [besV_some hb, i1, S1.f, hfr _ (by omega)]
        refine ⟨v1, fun z2 => ih2 _ _ fr fl F1 e27 e28 S1 (by rw [pick_f (fun y => z2 y.1)]) hfr hfl, fun z2 => ?_⟩
        have hs : sickF g n := ⟨z2, (hwi n hn z2).mp z⟩
        rw [pick_t hs] at ih2
        have hnl : nlOK cn fr := by
          have h1 := spK_nl (bk := bk) (g := g) (c := c) hc hl hfb.1 (by rw [hfb.2 _ (by omega) (by omega)]; exact hg) k
          rw [← hmix] at h1
          unfold nlOK at h1
          rw [mixF_o (by omega)] at h1
          exact h1
        have hfr' : ∀ i, i ≠ 1625 → drawF fr i = g i := fun i hi => by unfold drawF; rw [pk_un hi]; exact hfr i hi
        refine r_lotIsLow S1 hcb (by rw [hfr _ (by omega)]; exact hg) hnl hl0 (fun y M2 N2 F2 a1 a2 S2 => ?_) (fun y M2 N2 F2 a1 a2 S2 => ?_)
        · rw [nI_clamp (show c < 2 ^ 31 by omega), nar_b1]
          refine ⟨fun _ => ⟨vc, ?_⟩, fun z => absurd z (by decide)⟩
          have S3 : StM bk cn but (am_u M2 (3, 0, 28) c 1) N2 (drawF fr) fe lo := S2.nx1 (by omega) (by omega) _
          refine ih2 _ _ (drawF fr) (upd fl c 1) (F1.tr (F2.tr (FrM.x (by omega) (by omega) _))) ?_ ?_ S3 ?_ hfr' (fun n hn => ?_)
          · rw [am_u_o _ _ _ (by simp), a1]; exact e27
          · rw [am_u_c, a2, e28]
          · rw [mixF_set hc, mixF_draw]
            unfold spL
            rw [mixF_V, mixF_28, if_neg y]
          · rw [pk_un hn]; exact hfl n hn
        · rw [nI_clamp (show c < 2 ^ 31 by omega), nar_b1, nar_b0]
          refine ⟨fun z => absurd rfl z, fun _ => ⟨vc, fun z3 => ⟨vc, ?_⟩, fun z3 => ⟨vc, ?_⟩⟩⟩
          · have S3 : StM bk cn but (am_u M2 (3, 0, 28) c 0) N2 (drawF fr) fe lo := S2.nx1 (by omega) (by omega) _
            refine ih2 _ _ (drawF fr) fl (F1.tr (F2.tr (FrM.x (by omega) (by omega) _))) ?_ ?_ S3 ?_ hfr' hfl
            · rw [am_u_o _ _ _ (by simp), a1]; exact e27
            · rw [am_u_c, upd_id z3, a2, e28]
            · rw [mixF_draw]
              unfold spL
              rw [mixF_V, mixF_28, if_pos y]
          · have S3 : StM bk cn but (am_u M2 (3, 0, 28) c 1) N2 (drawF fr) fe lo := S2.nx1 (by omega) (by omega) _
            refine ih2 _ _ (drawF fr) (upd fl c 1) (F1.tr (F2.tr (FrM.x (by omega) (by omega) _))) ?_ ?_ S3 ?_ hfr' (fun n hn => ?_)
            · rw [am_u_o _ _ _ (by simp), a1]; exact e27
            · rw [am_u_c, a2, e28]
            · rw [mixF_set hc, mixF_draw]
              unfold spL
              rw [mixF_V, mixF_28, if_pos y]
              rw [a2, e28] at z3
              refine upd_id ?_
              unfold drawF
              rw [pk_un (by omega)]
              exact mixF_1 hc z3
            · rw [pk_un hn]; exact hfl n hn
end EN
