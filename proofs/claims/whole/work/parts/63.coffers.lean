/-! ===== offers: the class ===== -/
def tbi (x : Int32) (i : Nat) : Bool := x.toBitVec.getLsbD i
def b1 (j : Nat) : Int32 := (1 : Int32) <<< (nI j &&& 31)
theorem tbi_b1 : ∀ j, j < 32 → ∀ i, i < 32 → tbi (b1 j) i = decide (i = j) := by decide +kernel
theorem tbi_and (x y : Int32) (i : Nat) : tbi (x &&& y) i = (tbi x i && tbi y i) := by
  unfold tbi
  rw [Int32.toBitVec_and, BitVec.getLsbD_and]
theorem tbi_or (x y : Int32) (i : Nat) : tbi (x ||| y) i = (tbi x i || tbi y i) := by
  unfold tbi
  rw [Int32.toBitVec_or, BitVec.getLsbD_or]
theorem tbi_xor (x y : Int32) (i : Nat) : tbi (x ^^^ y) i = (tbi x i ^^ tbi y i) := by
  unfold tbi
  rw [Int32.toBitVec_xor, BitVec.getLsbD_xor]
theorem tbi_m1 : ∀ i, i < 32 → tbi (-1) i = true := by decide +kernel
theorem tbi_0 (i : Nat) : tbi 0 i = false := by
  unfold tbi
  show (0 : BitVec 32).getLsbD i = false
  simp
theorem tbi_not (x : Int32) {i : Nat} (hi : i < 32) : tbi (x ^^^ (-1)) i = !tbi x i := by
  rw [tbi_xor, tbi_m1 i hi]
  simp
theorem tbi_ext {x y : Int32} (h : ∀ i, i < 32 → tbi x i = tbi y i) : x = y := by
  apply Int32.toBitVec_inj.mp
  apply BitVec.eq_of_getLsbD_eq
  intro i hi
  exact h i hi
theorem and_b1 {x : Int32} {j : Nat} (hj : j < 32) : x &&& b1 j = 0 ↔ tbi x j = false := by
  constructor
  · intro h
    have := congrArg (fun z => tbi z j) h
    simp only [tbi_and, tbi_b1 j hj j hj, tbi_0] at this
    simpa using this
  · intro h
    apply tbi_ext
    intro i hi
    rw [tbi_and, tbi_b1 j hj i hi, tbi_0]
    by_cases e : i = j
    · subst e; simp [h]
    · simp [e]
/-- a set of carts as bits -/
def R8 (P : Nat → Prop) (x : Int32) : Prop := (∀ i, i < 8 → (tbi x i = true ↔ P i)) ∧ ∀ i, 8 ≤ i → i < 32 → tbi x i = false
theorem R8.zero {P : Nat → Prop} {x : Int32} (h : R8 P x) (hz : x = 0) {i : Nat} (hi : i < 8) : ¬ P i := fun hp => by
  have := (h.1 i hi).mpr hp
  rw [hz, tbi_0] at this
  cases this
theorem R8.iff {P Q : Nat → Prop} {x : Int32} (h : R8 P x) (e : ∀ i, i < 8 → (P i ↔ Q i)) : R8 Q x := ⟨fun i hi => (h.1 i hi).trans (e i hi), h.2⟩
theorem R8.and {P Q : Nat → Prop} {x y : Int32} (h : R8 P x) (g : R8 Q y) : R8 (fun i => P i ∧ Q i) (x &&& y) :=
  ⟨fun i hi => by rw [tbi_and, Bool.and_eq_true, h.1 i hi, g.1 i hi], fun i h1 h2 => by rw [tbi_and, h.2 i h1 h2]; rfl⟩
theorem R8.add {P : Nat → Prop} {x : Int32} {j : Nat} (h : R8 P x) (hj : j < 8) : R8 (fun i => P i ∨ i = j) (x ||| b1 j) :=
  ⟨fun i hi => by rw [tbi_or, tbi_b1 j (by omega) i (by omega), Bool.or_eq_true, h.1 i hi, decide_eq_true_eq], fun i h1 h2 => by rw [tbi_or, tbi_b1 j (by omega) i h2, h.2 i h1 h2]; simp; omega⟩
theorem R8.del {P : Nat → Prop} {x : Int32} {j : Nat} (h : R8 P x) (hj : j < 8) : R8 (fun i => P i ∧ i ≠ j) (x &&& (b1 j ^^^ (-1))) :=
  ⟨fun i hi => by rw [tbi_and, tbi_not _ (by omega), tbi_b1 j (by omega) i (by omega), Bool.and_eq_true, h.1 i hi]; simp, fun i h1 h2 => by rw [tbi_and, h.2 i h1 h2]; rfl⟩
theorem R8.none : R8 (fun _ => False) 0 := ⟨fun i _ => by rw [tbi_0]; simp, fun i _ _ => tbi_0 i⟩
def readyP (bk : Bk) (cn : Cn) (but : Nat → Nat → Prop) (f : Nat → Int32) (q : Nat) : Prop := q < cn.c ∧ ¬ but 1 q ∧ f (976 + q) = 0 ∧ ¬ 4 * f (968 + q) < nI (bk.cU q)
def VS (bk : Bk) (f : Nat → Int32) (M : am_I) (x : Int32) : Prop := ∀ q, q < 8 → tbi x q = true → srQ bk f q (M (0, 0, 3)) (M (0, 0, 4))
def bLi : Option (Nat × Nat) → Int32
  | none => 0
  | some (_, C) => nI C
section CO
variable {M M' : am_I} {N N' : am_N} {b : Nat} {bk : Bk} {cn full : Cn} {but : Nat → Nat → Prop} {f f' : Nat → Int32} {fe lo : Int64} {W q c w goal : Nat} {post : am_I → am_N → Prop} {postI : Int32 → am_I → am_N → Prop}
theorem srQ.rows {ky fy ky' fy' : Nat → Int32} (Q : srQ bk f q ky fy) (e : ∀ i, 64 * q ≤ i → i < 64 * q + 64 → ky' i = ky i ∧ fy' i = fy i) : srQ bk f q ky' fy' := by
  obtain ⟨R, key, fi, d1, d2, d3⟩ := Q
  refine ⟨R, key, fi, d1, d2, fun c hc => ?_⟩
  rw [(e (64 * q + c) (by omega) (by omega)).1, (e (64 * q + c) (by omega) (by omega)).2]
  exact d3 c hc
theorem srQ.fld {ky fy : Nat → Int32} (Q : srQ bk f q ky fy) (e1 : ∀ i, 64 ≤ i → i < 192 → f' i = f i) (e2 : f' 1626 = f 1626) (e3 : f' (960 + q) = f (960 + q)) (e4 : ∀ c, c < 64 → f' (992 + 64 * q + c) = f (992 + 64 * q + c)) : srQ bk f' q ky fy := by
  obtain ⟨R, key, fi, ⟨nd, d0, d1⟩, d2, d3⟩ := Q
  have eh : ∀ c, c < 64 → hvF bk f' q c = hvF bk f q c := fun c hc => hvF_cg (fun c hc => e1 _ (by omega) (by omega)) hc
  have e5 : spN f' q = spN f q := by unfold spN; rw [e3]
  have e6 : okF bk f' q = okF bk f q := by
    funext c
    unfold okF
    by_cases hc : c < 64
    · rw [e4 c hc, e2, e1 (128 + c) (by omega) (by omega), eh c hc]
    · exact propext ⟨fun z => absurd z.1 hc, fun z => absurd z.1 hc⟩
  refine ⟨R, key, fi, ⟨nd, d0, ?_⟩, d2, d3⟩
  rw [e5, e6]
  exact djkEnd_h (fun c hc => by unfold hnF; rw [eh c hc.1]) d1
theorem c_isReady (S : StC b bk cn full but M N f fe lo) (hcb : CnB cn) (hq : q < 8) (h1 : readyP bk cn but f q → postI 1 M N) (h0 : ¬ readyP bk cn but f q → postI 0 M N) : w_X1_isReady b (nI q) M N postI := by
  have v0 : vp_in (nI q) 8 := vp_in_nI (by omega) (by omega)
  unfold w_X1_isReady
  rw [nI_clamp (show q < 2 ^ 31 by omega)]
  unfold readyP at h1 h0
  by_cases hc : q < cn.c
  · by_cases hb : but 1 q
    · rw [S.w.c.off q hq (Or.inr hb)]
      exact ⟨v0, fun _ => h0 (fun z => z.2.1 hb), fun z => absurd z (by decide)⟩
    · rw [(S.w.c.on q hc hb).2.2.1]
      refine ⟨v0, fun z => h0 (fun y => z y.2.2.1), fun z => c_hasPower S hcb hc hb (fun y => ⟨fun _ => h0 (fun x => x.2.2.2 y), fun x => absurd rfl x⟩) (fun y => ⟨fun x => absurd x (by decide), fun _ => h1 ⟨hc, hb, z, y⟩⟩)⟩
  · rw [S.w.c.off q hq (Or.inl (by omega))]
    exact ⟨v0, fun _ => h0 (fun z => hc z.1), fun z => absurd z (by decide)⟩
theorem c_readyOnes (S : StC b bk cn full but M N f fe lo) (hcb : CnB cn) (h : ∀ x, R8 (readyP bk cn but f) x → postI x M N) : w_X1_readyOnes b M N postI := by
  unfold w_X1_readyOnes
  refine ⟨9, ?_⟩
  have key : ∀ (j o : Nat), o + j = 8 → ∀ x, R8 (fun i => i < o ∧ readyP bk cn but f i) x → w_X1_readyOnes_p4 b postI (j + 1) x (nI o) M N := by
    intro j
    induction j with
    | zero =>
      intro o ho x hx
      rw [w_X1_readyOnes_p4_s]
      unfold w_X1_readyOnes_p4_b
      exact ⟨fun _ => h x (hx.iff (fun i hi => ⟨fun z => z.2, fun z => ⟨by omega, z⟩⟩)), fun z => absurd (nI_le (a := 8) (by omega) (by omega)) z⟩
    | succ j ih =>
      intro o ho x hx
      rw [w_X1_readyOnes_p4_s]
      unfold w_X1_readyOnes_p4_b
      rw [nI_1]
      refine ⟨fun z => absurd z (nI_ge (b := 8) (by omega) (by omega)), fun _ => c_isReady S hcb (by omega) (fun hr => ⟨fun z => absurd z (by decide), fun _ v ev => ?_⟩) (fun hr => ⟨fun _ => ?_, fun z => absurd rfl z⟩)⟩
      · subst ev
        refine ih (o + 1) (by omega) _ ((hx.add (j := o) (by omega)).iff (fun i hi => ⟨fun z => ?_, fun z => ?_⟩))
        · rcases z with z | z
          · exact ⟨by omega, z.2⟩
          · subst z; exact ⟨by omega, hr⟩
        · by_cases e : i = o
          · exact Or.inr e
          · exact Or.inl ⟨by omega, z.2⟩
      · refine ih (o + 1) (by omega) _ (hx.iff (fun i hi => ⟨fun z => ⟨by omega, z.2⟩, fun z => ⟨?_, z.2⟩⟩))
        have : i ≠ o := fun e => hr (e ▸ z.2)
        omega
  exact key 8 0 (by omega) 0 (R8.none.iff (fun i hi => ⟨fun z => absurd z id, fun z => by omega⟩))
theorem c_ofKind (S : StC b bk cn full but M N f fe lo) (k : Int32) (h : ∀ x, R8 (fun i => i < full.c ∧ M (2, 2, 1) (i * 5 + 0) = k) x → postI x M N) : w_X10_ofKind b k M N postI := by
  have h8 := S.fb.2.1
  unfold w_X10_ofKind
  refine ⟨full.c + 1, ?_⟩
  have key : ∀ (j o : Nat), o + j = full.c → ∀ x, R8 (fun i => i < o ∧ M (2, 2, 1) (i * 5 + 0) = k) x → w_X10_ofKind_p4 b postI (j + 1) k x (nI o) M N := by
    intro j
    induction j with
    | zero =>
      intro o ho x hx
      rw [w_X10_ofKind_p4_s]
      unfold w_X10_ofKind_p4_b
      rw [S.k.t2.2.1]
      exact ⟨fun _ => h x (hx.iff (fun i hi => ⟨fun z => ⟨by omega, z.2⟩, fun z => ⟨by omega, z.2⟩⟩)), fun z => absurd (nI_le (by omega) (by omega)) z⟩
    | succ j ih =>
      intro o ho x hx
      rw [w_X10_ofKind_p4_s]
      unfold w_X10_ofKind_p4_b
      rw [S.k.t2.2.1, nI_1]
      refine ⟨fun z => absurd z (nI_ge (by omega) (by omega)), fun _ => sp_at (w := 5) (c := 0) S.k.t2 (by omega) (by omega) ⟨fun z => ?_, fun z v ev => ?_⟩⟩
      · refine ih (o + 1) (by omega) _ (hx.iff (fun i hi => ⟨fun z => ⟨by omega, z.2⟩, fun y => ⟨?_, y.2⟩⟩))
        have : i ≠ o := fun e => z (e ▸ y.2)
        omega
      · subst ev
        refine ih (o + 1) (by omega) _ ((hx.add (j := o) (by omega)).iff (fun i hi => ⟨fun y => ?_, fun y => ?_⟩))
        · rcases y with y | y
          · exact ⟨by omega, y.2⟩
          · subst y; exact ⟨by omega, z⟩
        · by_cases e : i = o
          · exact Or.inr e
          · exact Or.inl ⟨by omega, y.2⟩
  exact key full.c 0 (by omega) 0 (R8.none.iff (fun i hi => ⟨fun z => absurd z id, fun z => by omega⟩))
theorem c_cheapest (S : StC b bk cn full but M N f fe lo) (hcb : CnB cn) (hB : BkGood bk cn) (hw : w < cn.w) {fit : Int32} (hf : R8 (fun q => q < cn.c ∧ mayF bk but f q w) fit) (hV : VS bk f M fit) (h : postI (bV (bestF bk but f w cn.c)) M N) : w_X10_cheapest b fit (nI w) M N postI := by
  have h8 := hcb.2.1
  unfold w_X10_cheapest
  refine ⟨9, ?_⟩
  have key : ∀ (j o : Nat), o + j = 8 → w_X10_cheapest_p8 b postI (j + 1) fit (nI w) (bV (bestF bk but f w (min o cn.c))) (bLi (bestF bk but f w (min o cn.c))) (nI o) M N := by
    intro j
    induction j with
    | zero =>
      intro o ho
      rw [w_X10_cheapest_p8_s]
      unfold w_X10_cheapest_p8_b
      rw [show min o cn.c = cn.c by omega]
      exact ⟨fun _ => h, fun z => absurd (nI_le (a := 8) (by omega) (by omega)) z⟩
    | succ j ih =>
      intro o ho
      have ih' := ih (o + 1) (by omega)
      rw [w_X10_cheapest_p8_s]
      unfold w_X10_cheapest_p8_b
      refine ⟨fun z => absurd z (nI_ge (b := 8) (by omega) (by omega)), fun _ => ?_⟩
      have hb1 : (fit &&& (1 : Int32) <<< (nI o &&& 31) = 0) ↔ tbi fit o = false := and_b1 (j := o) (by omega)
      rw [hb1]
      by_cases hm : o < cn.c ∧ mayF bk but f o w
      · have ht := (hf.1 o (by omega)).mpr hm
        rw [ht]
        refine ⟨fun z => absurd z (by decide), fun _ => c_goalOf S hB hw (by omega) (hV o (by omega) ht) (fun r hr => ?_)⟩
        rw [show min (o + 1) cn.c = o + 1 by omega, bestF_t hm.2] at ih'
        rw [show min o cn.c = o by omega]
        unfold w_X10_cheapest_p35 w_X10_cheapest_p78
        rw [nI_1]
        refine c_hasWay hr (by omega) (fun C k x ev => ⟨fun _ => c_costTo hr (by omega) (fun C2 k2 x2 ev2 hC2 => ?_) (fun ev2 => by rw [ev] at ev2; cases ev2), fun z => absurd z (by decide)⟩) (fun ev => ⟨fun z => absurd rfl z, fun _ => ?_⟩)
        · rw [ev] at ev2
          simp only [Option.some.injEq, Prod.mk.injEq] at ev2
          rw [← ev2.1]
          rw [ev] at ih'
          cases hb : bestF bk but f w o with
          | none =>
            rw [hb] at ih'
            exact ⟨fun _ => ih', fun z => absurd (show (-1 : Int32) < 0 by decide) z⟩
          | some v2 =>
            obtain ⟨p, L⟩ := v2
            have hL := bestF_le (fun q C k x e => wayG_C e) hb
            obtain ⟨hp, -⟩ := bestF_ok hb
            rw [hb] at ih'
            have hle : (bLi (some (p, L)) ≤ nI C) ↔ L ≤ C := nI_leI (a := L) (b := C) (by omega) (by omega)
            refine ⟨fun z => absurd z (nI_pos (n := p) (by omega)), fun _ => ?_⟩
            rw [hle]
            refine ⟨fun z => ?_, fun z => ?_⟩
            · have e5 : betterF o (some (C, k, x)) (some (p, L)) = some (p, L) := if_neg (by omega)
              rw [e5] at ih'
              exact ih'
            · have e5 : betterF o (some (C, k, x)) (some (p, L)) = some (o, C) := if_pos (by omega)
              rw [e5] at ih'
              exact ih'
        · rw [ev] at ih'
          exact ih'
      · have ht : tbi fit o = false := by
          cases hh : tbi fit o with
          | false => rfl
          | true => exact absurd ((hf.1 o (by omega)).mp hh) hm
        rw [ht]
        refine ⟨fun _ => ?_, fun z => absurd rfl z⟩
        unfold w_X10_cheapest_p35
        refine sp_X5_hasWayN ⟨fun z => absurd rfl z, fun _ => ?_⟩ (by omega)
        rw [nI_1]
        have e6 : bestF bk but f w (min (o + 1) cn.c) = bestF bk but f w (min o cn.c) := by
          by_cases e : o < cn.c
          · rw [show min (o + 1) cn.c = o + 1 by omega, show min o cn.c = o by omega, bestF_f (fun z => hm ⟨e, z⟩)]
          · rw [show min (o + 1) cn.c = min o cn.c by omega]
        rw [e6] at ih'
        exact ih'
  have k0 := key 8 0 (by omega)
  rw [show min 0 cn.c = 0 by omega] at k0
  exact k0
theorem takeF_eq {L : Nat} (h8 : q < 8) : takeF f w (some (q, L)) = upd (upd (upd (upd f (1504 + w) 1) (1564 + w) (nI q)) (984 + q) (nI w)) (976 + q) 1 := by
  unfold takeF
  dsimp only
  funext i
  by_cases e1 : i = 976 + q
  · subst e1; rw [pk_un (by omega), pk_us, pk_us]
  · rw [pk_un e1]
    by_cases e2 : i = 984 + q
    · subst e2; rw [pk_us, pk_us]
    · rw [pk_un e2, pk_un e2, pk_un e1]
theorem takeF_o {v : Option (Nat × Nat)} {i : Nat} (hv : ∀ q L, v = some (q, L) → i ≠ 976 + q ∧ i ≠ 984 + q) (hi : ¬ (1504 ≤ i ∧ i < 1624)) (hw : w < 60) : takeF f w v i = f i := by
  cases v with
  | none => rfl
  | some v =>
    obtain ⟨q, L⟩ := v
    obtain ⟨h1, h2⟩ := hv q L rfl
    unfold takeF
    dsimp only
    rw [pk_un h2, pk_un h1, pk_un (by omega), pk_un (by omega)]
theorem offersF_stop (hn : ∀ q, q < cn.c → ¬ readyP bk cn but (offersF bk but cn f w) q) : ∀ j, offersF bk but cn f (w + j) = offersF bk but cn f w
  | 0 => rfl
  | j + 1 => by
    have ih := offersF_stop hn j
    rw [← Nat.add_assoc]
    show offer1 bk but cn (offersF bk but cn f (w + j)) (w + j) = _
    rw [ih]
    have hb : ∀ n, n ≤ cn.c → bestF bk but (offersF bk but cn f w) (w + j) n = none := by
      intro n
      induction n with
      | zero => exact fun _ => rfl
      | succ n ihn =>
        intro h
        rw [bestF_f (fun z => hn n (by omega) ⟨by omega, z.1, z.2.1, z.2.2.2⟩)]
        exact ihn (by omega)
    unfold offer1
    rw [hb cn.c (Nat.le_refl _)]
    exact ite_self _
theorem c_search57 (G : GoodF W cn f) (hB : BkGood bk cn) {zk12 : Int32 → Int32 → Int32 → am_I → am_N → Prop} {l1 l2 l3 fit : Int32} (hf : R8 (fun q => q < cn.c ∧ mayF bk but f q w) fit) {M0 : am_I} {N0 : am_N}
    (h : ∀ M' N', Fr b M0 N0 M' N' → StC b bk cn full but M' N' f fe lo → VS bk f M' (l2 ||| fit) → w_X10_cheapest b fit l3 M' N' (fun zr1 zM2 zN3 => ((zr1 < 0 → zk12 l1 (l2 ||| fit) (l3 + 1) zM2 zN3) ∧ (¬ zr1 < 0 → w_X10_takeOn b zr1 l3 zM2 zN3 (fun zM4 zN5 => ∀ zv6 : Int32, zv6 = l1 &&& (((1 : Int32) <<< (zr1 &&& 31)) ^^^ (-1)) → zk12 zv6 (l2 ||| fit) (l3 + 1) zM4 zN5))))) :
    ∀ (j o : Nat), o + j = 8 → ∀ M1 N1, Fr b M0 N0 M1 N1 → StC b bk cn full but M1 N1 f fe lo → (∀ q, q < 8 → (tbi l2 q = true ∨ (q < o ∧ tbi fit q = true)) → srQ bk f q (M1 (0, 0, 3)) (M1 (0, 0, 4))) → w_X10_makeOffers_p57 b post zk12 (j + 1) l1 l2 l3 fit (nI o) M1 N1 := by
  intro j
  induction j with
  | zero =>
    intro o ho M1 N1 F1 S1 V1
    rw [w_X10_makeOffers_p57_s]
    unfold w_X10_makeOffers_p57_b
    refine ⟨fun _ => h _ _ F1 S1 (fun q hq ht => V1 q hq ?_), fun z => absurd (nI_le (a := 8) (by omega) (by omega)) z⟩
    rw [tbi_or, Bool.or_eq_true] at ht
    rcases ht with ht | ht
    · exact Or.inl ht
    · exact Or.inr ⟨by omega, ht⟩
  | succ j ih =>
    intro o ho M1 N1 F1 S1 V1
    rw [w_X10_makeOffers_p57_s]
    unfold w_X10_makeOffers_p57_b
    have hb1 : ((fit &&& (l2 ^^^ (-1))) &&& (1 : Int32) <<< (nI o &&& 31) = 0) ↔ tbi (fit &&& (l2 ^^^ (-1))) o = false := and_b1 (j := o) (by omega)
    rw [hb1, nI_1, tbi_and, tbi_not _ (show o < 32 by omega)]
    refine ⟨fun z => absurd z (nI_ge (b := 8) (by omega) (by omega)), fun _ => ⟨fun z => ih (o + 1) (by omega) _ _ F1 S1 (fun q hq ht => V1 q hq ?_), fun z => ?_⟩⟩
    · rcases ht with ht | ⟨h1, h2⟩
      · exact Or.inl ht
      · by_cases e : q = o
        · subst e
          rw [h2] at z
          left
          revert z
          cases tbi l2 q <;> simp
        · exact Or.inr ⟨by omega, h2⟩
    · have z1 : tbi fit o = true ∧ tbi l2 o = false := by
        revert z
        cases tbi fit o <;> cases tbi l2 o <;> simp
      obtain ⟨hoc, hm⟩ := (hf.1 o (by omega)).mp z1.1
      refine c_search S1 G hB hoc hm.1 (fun M2 N2 F2 S2 Q2 O2 => ih (o + 1) (by omega) _ _ (F1.tr F2) S2 (fun q hq ht => ?_))
      by_cases e : q = o
      · subst e; exact Q2
      · refine (V1 q hq ?_).rows (fun i h1 h2 => O2 i (by omega))
        rcases ht with ht | ⟨h1, h2⟩
        · exact Or.inl ht
        · exact Or.inr ⟨by omega, h2⟩
theorem c_makeOffers (S : StC b bk cn full but M N f fe lo) (G : GoodF W cn f) (hB : BkGood bk cn) (hBO : BO cn but f) (h : ∀ M' N', Fr b M N M' N' → StC b bk cn full but M' N' (offersF bk but cn f cn.w) fe lo → post M' N') : w_X10_makeOffers b M N post := by
  have h8 := G.b.2.1
  have h60 := G.b.2.2.1
  unfold w_X10_makeOffers
  refine c_readyOnes S G.b (fun x hx => ⟨61, ?_⟩)
  have key : ∀ (j w : Nat), w + j = 60 → ∀ M1 N1 rd sr, Fr b M N M1 N1 → StC b bk cn full but M1 N1 (offersF bk but cn f (min w cn.w)) fe lo → R8 (readyP bk cn but (offersF bk but cn f (min w cn.w))) rd → VS bk (offersF bk but cn f (min w cn.w)) M1 sr → w_X10_makeOffers_p12 b post (j + 1) rd sr (nI w) M1 N1 := by
    intro j
    induction j with
    | zero =>
      intro w ho M1 N1 rd sr F1 S1 hr hs
      rw [show min w cn.w = cn.w by omega] at S1
      rw [w_X10_makeOffers_p12_s]
      unfold w_X10_makeOffers_p12_b
      exact ⟨fun _ => h _ _ F1 S1, fun z => absurd (nI_le (a := 60) (by omega) (by omega)) z⟩
    | succ j ih =>
      intro w ho M1 N1 rd sr F1 S1 hr hs
      have ih' := ih (w + 1) (by omega)
      have vw : vp_in (nI w) 60 := vp_in_nI (by omega) (by omega)
      rw [w_X10_makeOffers_p12_s]
      unfold w_X10_makeOffers_p12_b
      rw [nI_clamp (show w < 2 ^ 31 by omega)]
      refine ⟨fun z => absurd z (nI_ge (b := 60) (by omega) (by omega)), fun _ => ⟨fun z => ?_, fun _ => ⟨vw, ?_⟩⟩⟩
      · have hst := offersF_stop (bk := bk) (but := but) (cn := cn) (f := f) (w := min w cn.w) (fun q hq => hr.zero z (by omega)) (cn.w - min w cn.w)
        rw [show min w cn.w + (cn.w - min w cn.w) = cn.w by omega] at hst
        rw [← hst] at S1
        exact h _ _ F1 S1
      · by_cases hwc : w < cn.w
        · rw [show min w cn.w = w by omega] at S1 hr hs
          rw [show min (w + 1) cn.w = w + 1 by omega] at ih'
          have eo : offersF bk but cn f (w + 1) = offer1 bk but cn (offersF bk but cn f w) w := rfl
          rw [eo] at ih'
          obtain ⟨g1, g2⟩ := offersF_good (bk := bk) G hBO w (by omega)
          generalize offersF bk but cn f w = fw at S1 hr hs ih' g1 g2
          rw [(S1.w.k.on w hwc).1]
          unfold offer1 at ih'
          have hle := S1.k.le.2.2.1
          have hlc := S1.k.le.2.1
          refine ⟨fun z => sp_at (w := 3) (c := 0) S1.k.t3 (by omega) (by omega) ?_, fun z => ?_⟩
          · rw [if_pos z] at ih'
            rw [(S1.k.w w hwc).1]
            refine c_ofKind S1 _ (fun kd hkd => ⟨9, ?_⟩)
            have hkw := (hB.w w hwc).1
            have hfit : R8 (fun q => q < cn.c ∧ mayF bk but fw q w) (rd &&& kd) := by
              refine (hr.and hkd).iff (fun i hi => ⟨fun y => ⟨y.1.1, y.1.2.1, y.1.2.2.1, ?_, y.1.2.2.2⟩, fun y => ⟨⟨y.1, y.2.1, y.2.2.1, y.2.2.2.2⟩, Nat.lt_of_lt_of_le y.1 hlc, ?_⟩⟩)
              · have hic := y.1.1
                have hki := (hB.c i hic).1
                have y2 := y.2.2
                rw [(S1.k.c i hic).1, nI_eq (by omega) (by omega)] at y2
                exact y2
              · rw [(S1.k.c i y.1).1, y.2.2.2.1]
            refine c_search57 (M0 := M1) (N0 := N1) (fe := fe) (lo := lo) (full := full) (w := w) g1 hB hfit (fun M2 N2 F2 S2 V2 => ?_) 8 0 (by omega) M1 N1 Fr.rf S1 (fun q hq ht => hs q hq (by
              rcases ht with ht | ht
              · exact ht
              · omega))
            refine c_cheapest S2 G.b hB hwc hfit (fun q hq ht => V2 q hq (by rw [tbi_or, ht, Bool.or_true])) ?_
            cases hbest : bestF bk but fw w cn.c with
            | none =>
              rw [hbest] at ih'
              refine ⟨fun _ => ?_, fun z => absurd (show (-1 : Int32) < 0 by decide) z⟩
              rw [nI_1]
              exact ih' _ _ _ _ (F1.tr F2) S2 hr V2
            | some v =>
              obtain ⟨q, L⟩ := v
              obtain ⟨hq, hm⟩ := bestF_ok hbest
              rw [hbest] at ih'
              have v0 : vp_in (nI q) 8 := vp_in_nI (by omega) (by omega)
              refine ⟨fun z => absurd z (nI_pos (n := q) (by omega)), fun _ => ?_⟩
              show w_X10_takeOn b (nI q) (nI w) M2 N2 _
              unfold w_X10_takeOn
              rw [nI_clamp (show q < 2 ^ 31 by omega), nI_clamp (show w < 2 ^ 31 by omega), nI_1]
              refine ⟨vw, vw, v0, v0, fun v6 ev6 => ?_⟩
              subst ev6
              have F3 : Fr b M2 N2 (am_u (am_u (am_u (am_u M2 (1, b, 20) w 1) (1, b, 21) w (nI q)) (1, b, 18) q (nI w)) (1, b, 17) q 1) N2 := (Fr.u (by decide) _).tr ((Fr.u (by decide) _).tr ((Fr.u (by decide) _).tr (Fr.u (by decide) _)))
              have S3 : StC b bk cn full but (am_u (am_u (am_u (am_u M2 (1, b, 20) w 1) (1, b, 21) w (nI q)) (1, b, 18) q (nI w)) (1, b, 17) q 1) N2 (takeF fw w (some (q, L))) fe lo := by
                rw [takeF_eq (by omega)]
                exact S2.nx F3 ((((S2.w.u20 G.b hwc 1).u21 G.b hwc (nI q)).u18 G.b hq (nI w)).u17 G.b hq hm.1 1)
              have hto : ∀ i, i ≠ 976 + q → i ≠ 984 + q → ¬ (1504 ≤ i ∧ i < 1624) → takeF fw w (some (q, L)) i = fw i := fun i h1 h2 h3 => takeF_o (fun q' L' e => by
                simp only [Option.some.injEq, Prod.mk.injEq] at e
                rw [← e.1]
                exact ⟨h1, h2⟩) h3 (by omega)
              refine ih' _ _ _ _ (F1.tr (F2.tr F3)) S3 ((hr.del (j := q) (by omega)).iff (fun i hi => ?_)) (fun p hp ht => ?_)
              · unfold readyP
                by_cases e : i = q
                · subst e
                  have e1 : takeF fw w (some (i, L)) (976 + i) = 1 := by rw [takeF_eq (by omega), pk_us]
                  rw [e1]
                  exact ⟨fun y => absurd rfl y.2, fun y => absurd y.2.2.1 (by decide)⟩
                · rw [hto (976 + i) (by omega) (by omega) (by omega), hto (968 + i) (by omega) (by omega) (by omega)]
                  exact ⟨fun y => y.1, fun y => ⟨y, e⟩⟩
              · have e3 : ∀ i, (am_u (am_u (am_u (am_u M2 (1, b, 20) w 1) (1, b, 21) w (nI q)) (1, b, 18) q (nI w)) (1, b, 17) q 1) (0, 0, i) = M2 (0, 0, i) := fun i => by
                  rw [am_u_o _ _ _ (by simp), am_u_o _ _ _ (by simp), am_u_o _ _ _ (by simp), am_u_o _ _ _ (by simp)]
                rw [e3, e3]
                exact (V2 p hp ht).fld (fun i h1 h2 => hto i (by omega) (by omega) (by omega)) (hto _ (by omega) (by omega) (by omega)) (hto _ (by omega) (by omega) (by omega)) (fun c hc => hto _ (by omega) (by omega) (by omega))
          · rw [if_neg z] at ih'
            rw [nI_1]
            exact ih' _ _ _ _ F1 S1 hr hs
        · rw [(S1.w.k.new w (by omega) (by omega)).1, nI_1]
          rw [show min (w + 1) cn.w = min w cn.w by omega] at ih'
          exact ⟨fun z => absurd z (by decide), fun _ => ih' _ _ _ _ F1 S1 hr hs⟩
  refine key 60 0 (by omega) M N x 0 Fr.rf ?_ ?_ ?_
  · rw [show min 0 cn.w = 0 by omega]; exact S
  · rw [show min 0 cn.w = 0 by omega]; exact hx
  · intro q hq ht
    rw [tbi_0] at ht
    cases ht
end CO
