/-! ===== the tape; what both keep of rules ===== -/
def IRl (t : Nat → Nat) (B r : Nat) (ft : Int32) (PP : List SX) (SS : List (Nat × Nat)) (M : am_I) : Prop := (B ≤ 500) ∧ (∀ i, i < B → t i < 256 ∧ M (0, 0, 8) i = nI (t i) ∧ M (3, 0, 43) i = sbI (t i)) ∧ (M (0, 0, 7) 4 = nI B) ∧ (M (3, 0, 0) 47 = nI B) ∧ (r ≤ 8) ∧ (M (0, 0, 0) 8 = nI r) ∧ (M (3, 0, 0) 45 = nI r) ∧ (M (0, 0, 0) 9 = ft) ∧ (M (3, 0, 0) 51 = ft) ∧ (M (3, 0, 0) 46 = nI SS.length) ∧ (SS.length ≤ 500 * r) ∧ (RPf SS M) ∧ (PP.length ≤ 24) ∧ (r = 0 → PP = []) ∧ (∀ x, x ∈ PP → okS x) ∧ (0 < r → RPg PP (r - 1) SS M ∧ M (3, 0, 34) (r - 1) = nI PP.length) ∧ ((PP.flatMap cdS).length ≤ 548) ∧ (M (0, 0, 12) 2 = nI (PP.flatMap cdS).length) ∧ (M (0, 0, 12) 3 = nI PP.length) ∧ (∀ i, i < (PP.flatMap cdS).length → M (0, 0, 13) i = (PP.flatMap cdS).getD i 0)
theorem IRl.b {t : Nat → Nat} {B r : Nat} {ft : Int32} {PP : List SX} {SS : List (Nat × Nat)} {M : am_I} (h : IRl t B r ft PP SS M) : B ≤ 500 := h.1
theorem IRl.tp {t : Nat → Nat} {B r : Nat} {ft : Int32} {PP : List SX} {SS : List (Nat × Nat)} {M : am_I} (h : IRl t B r ft PP SS M) : ∀ i, i < B → t i < 256 ∧ M (0, 0, 8) i = nI (t i) ∧ M (3, 0, 43) i = sbI (t i) := h.2.1
theorem IRl.bc {t : Nat → Nat} {B r : Nat} {ft : Int32} {PP : List SX} {SS : List (Nat × Nat)} {M : am_I} (h : IRl t B r ft PP SS M) : M (0, 0, 7) 4 = nI B := h.2.2.1
theorem IRl.bm {t : Nat → Nat} {B r : Nat} {ft : Int32} {PP : List SX} {SS : List (Nat × Nat)} {M : am_I} (h : IRl t B r ft PP SS M) : M (3, 0, 0) 47 = nI B := h.2.2.2.1
theorem IRl.r8 {t : Nat → Nat} {B r : Nat} {ft : Int32} {PP : List SX} {SS : List (Nat × Nat)} {M : am_I} (h : IRl t B r ft PP SS M) : r ≤ 8 := h.2.2.2.2.1
theorem IRl.rc {t : Nat → Nat} {B r : Nat} {ft : Int32} {PP : List SX} {SS : List (Nat × Nat)} {M : am_I} (h : IRl t B r ft PP SS M) : M (0, 0, 0) 8 = nI r := h.2.2.2.2.2.1
theorem IRl.rm {t : Nat → Nat} {B r : Nat} {ft : Int32} {PP : List SX} {SS : List (Nat × Nat)} {M : am_I} (h : IRl t B r ft PP SS M) : M (3, 0, 0) 45 = nI r := h.2.2.2.2.2.2.1
theorem IRl.fc {t : Nat → Nat} {B r : Nat} {ft : Int32} {PP : List SX} {SS : List (Nat × Nat)} {M : am_I} (h : IRl t B r ft PP SS M) : M (0, 0, 0) 9 = ft := h.2.2.2.2.2.2.2.1
theorem IRl.fm {t : Nat → Nat} {B r : Nat} {ft : Int32} {PP : List SX} {SS : List (Nat × Nat)} {M : am_I} (h : IRl t B r ft PP SS M) : M (3, 0, 0) 51 = ft := h.2.2.2.2.2.2.2.2.1
theorem IRl.sz {t : Nat → Nat} {B r : Nat} {ft : Int32} {PP : List SX} {SS : List (Nat × Nat)} {M : am_I} (h : IRl t B r ft PP SS M) : M (3, 0, 0) 46 = nI SS.length := h.2.2.2.2.2.2.2.2.2.1
theorem IRl.sl {t : Nat → Nat} {B r : Nat} {ft : Int32} {PP : List SX} {SS : List (Nat × Nat)} {M : am_I} (h : IRl t B r ft PP SS M) : SS.length ≤ 500 * r := h.2.2.2.2.2.2.2.2.2.2.1
theorem IRl.sp {t : Nat → Nat} {B r : Nat} {ft : Int32} {PP : List SX} {SS : List (Nat × Nat)} {M : am_I} (h : IRl t B r ft PP SS M) : RPf SS M := h.2.2.2.2.2.2.2.2.2.2.2.1
theorem IRl.pl {t : Nat → Nat} {B r : Nat} {ft : Int32} {PP : List SX} {SS : List (Nat × Nat)} {M : am_I} (h : IRl t B r ft PP SS M) : PP.length ≤ 24 := h.2.2.2.2.2.2.2.2.2.2.2.2.1
theorem IRl.p0 {t : Nat → Nat} {B r : Nat} {ft : Int32} {PP : List SX} {SS : List (Nat × Nat)} {M : am_I} (h : IRl t B r ft PP SS M) : r = 0 → PP = [] := h.2.2.2.2.2.2.2.2.2.2.2.2.2.1
theorem IRl.ok {t : Nat → Nat} {B r : Nat} {ft : Int32} {PP : List SX} {SS : List (Nat × Nat)} {M : am_I} (h : IRl t B r ft PP SS M) : ∀ x, x ∈ PP → okS x := h.2.2.2.2.2.2.2.2.2.2.2.2.2.2.1
theorem IRl.pg {t : Nat → Nat} {B r : Nat} {ft : Int32} {PP : List SX} {SS : List (Nat × Nat)} {M : am_I} (h : IRl t B r ft PP SS M) : 0 < r → RPg PP (r - 1) SS M ∧ M (3, 0, 34) (r - 1) = nI PP.length := h.2.2.2.2.2.2.2.2.2.2.2.2.2.2.2.1
theorem IRl.cl {t : Nat → Nat} {B r : Nat} {ft : Int32} {PP : List SX} {SS : List (Nat × Nat)} {M : am_I} (h : IRl t B r ft PP SS M) : (PP.flatMap cdS).length ≤ 548 := h.2.2.2.2.2.2.2.2.2.2.2.2.2.2.2.2.1
theorem IRl.cz {t : Nat → Nat} {B r : Nat} {ft : Int32} {PP : List SX} {SS : List (Nat × Nat)} {M : am_I} (h : IRl t B r ft PP SS M) : M (0, 0, 12) 2 = nI (PP.flatMap cdS).length := h.2.2.2.2.2.2.2.2.2.2.2.2.2.2.2.2.2.1
theorem IRl.cn {t : Nat → Nat} {B r : Nat} {ft : Int32} {PP : List SX} {SS : List (Nat × Nat)} {M : am_I} (h : IRl t B r ft PP SS M) : M (0, 0, 12) 3 = nI PP.length := h.2.2.2.2.2.2.2.2.2.2.2.2.2.2.2.2.2.2.1
theorem IRl.cd {t : Nat → Nat} {B r : Nat} {ft : Int32} {PP : List SX} {SS : List (Nat × Nat)} {M : am_I} (h : IRl t B r ft PP SS M) : ∀ i, i < (PP.flatMap cdS).length → M (0, 0, 13) i = (PP.flatMap cdS).getD i 0 := h.2.2.2.2.2.2.2.2.2.2.2.2.2.2.2.2.2.2.2
def INVR (M : am_I) : Prop := ∃ t B r ft PP SS, IRl t B r ft PP SS M
def FrY (M : am_I) (N : am_N) (M' : am_I) (N' : am_N) : Prop := (∀ c : am_C, ¬ (c.1 = 0 ∧ (c.2.2 = 0 ∨ 7 ≤ c.2.2)) → ¬ (c.1 = 3 ∧ (c.2.2 = 0 ∨ 34 ≤ c.2.2)) → M' c = M c ∧ N' c = N c) ∧ (∀ j, j < 45 → M' (3, 0, 0) j = M (3, 0, 0) j) ∧ N' (3, 0, 0) = N (3, 0, 0)
def byN (y : Int32) : Nat := y.toBitVec.toNat % 256
theorem by_lt (y : Int32) : byN y < 256 := Nat.mod_lt _ (by decide)
theorem by_and (y : Int32) : y &&& 255 = nI (byN y) := pk_and y (m := 255) 8 (by decide)
theorem by_low (x : Int32) : (x &&& 255).toInt8 = x.toInt8 := by
  rw [Int32.toInt8_and]
  show x.toInt8 &&& (255 : Int32).toInt8 = _
  rw [show (255 : Int32).toInt8 = -1 by decide]
  exact Int8.and_neg_one
theorem by_sb (y : Int32) : vp_nar .byte (y.toInt8.toInt32) = sbI (byN y) := by
  rw [pk_vb, ← by_low, by_and]; rfl
def t4 (v : Int32) (t : Nat → Nat) (B : Nat) : Nat → Nat := uN (uN (uN (uN t B (byN (v >>> ((24 : Int32) &&& 31)))) (B + 1) (byN (v >>> ((16 : Int32) &&& 31)))) (B + 2) (byN (v >>> ((8 : Int32) &&& 31)))) (B + 3) (byN (v >>> ((0 : Int32) &&& 31)))
def TpF (t : Nat → Nat) (B : Nat) (M : am_I) : Prop := M (0, 0, 7) 4 = nI B ∧ ∀ i, i < B → t i < 256 ∧ M (0, 0, 8) i = nI (t i)
def TpM (t : Nat → Nat) (B : Nat) (M : am_I) : Prop := M (3, 0, 0) 47 = nI B ∧ ∀ i, i < B → t i < 256 ∧ M (3, 0, 43) i = sbI (t i)
def Fr8 (M M1 : am_I) : Prop := (∀ c : am_C, c ≠ (0, 0, 7) → c ≠ (0, 0, 8) → M1 c = M c) ∧ ∀ j, j ≠ 4 → M1 (0, 0, 7) j = M (0, 0, 7) j
def Fr43 (M M1 : am_I) : Prop := (∀ c : am_C, c ≠ (3, 0, 0) → c ≠ (3, 0, 43) → M1 c = M c) ∧ ∀ j, j ≠ 47 → M1 (3, 0, 0) j = M (3, 0, 0) j
section FD
variable {t : Nat → Nat} {B : Nat} {M M1 M2 : am_I} {N : am_N} {v : Int32} {post : am_I → am_N → Prop} {a1 a2 a3 a4 a5 : Int32}
theorem Fr8.tr (h1 : Fr8 M M1) (h2 : Fr8 M1 M2) : Fr8 M M2 := ⟨fun c q1 q2 => (h2.1 c q1 q2).trans (h1.1 c q1 q2), fun j q => (h2.2 j q).trans (h1.2 j q)⟩
theorem Fr43.tr (h1 : Fr43 M M1) (h2 : Fr43 M1 M2) : Fr43 M M2 := ⟨fun c q1 q2 => (h2.1 c q1 q2).trans (h1.1 c q1 q2), fun j q => (h2.2 j q).trans (h1.2 j q)⟩
theorem c_ap1 {j : Nat} {s : Int32} (T : TpF t B M) (hB : B < 500) (hs : ¬ s < 0) (h : ∀ M1, Fr8 M M1 → TpF (uN t B (byN (v >>> (s &&& 31)))) (B + 1) M1 → w_X7_append_p3 post j v (s + (-8)) M1 N) : w_X7_append_p3 post (j + 1) v s M N := by
  rw [w_X7_append_p3_s]
  unfold w_X7_append_p3_b
  have s8 : ∀ (g : am_I) (i : Nat) (x : Int32), am_u g (0, 0, 8) i x (0, 0, 7) = g (0, 0, 7) := fun g i x => am_u_o _ _ _ (by simp)
  rw [s8, T.1, nI_clamp (show B < 2 ^ 31 by omega), by_and, nI_1]
  refine ⟨fun z => absurd z hs, fun _ => ⟨fun z => absurd z (nI_ge (b := 500) hB (by omega)), fun _ => ⟨vp_in_nI hB (by omega), h _ ⟨fun c q1 q2 => by rw [am_u_o _ _ _ q1, am_u_o _ _ _ q2], fun j q => by rw [am_u_c, pk_un q, s8]⟩ ⟨by rw [am_u_c, pk_us], fun i hi => ?_⟩⟩⟩⟩
  rw [am_u_o _ _ _ (by simp), am_u_c]
  by_cases e : i = B
  · subst e; rw [uN_s, pk_us]; exact ⟨by_lt _, rfl⟩
  · rw [uN_o e, pk_un e]; exact T.2 i (by omega)
theorem r_ap1 {j : Nat} {s : Int32} (T : TpM t B M) (hB : B < 500) (hs : ¬ s < 0) (h : ∀ M1, Fr43 M M1 → TpM (uN t B (byN (v >>> (s &&& 31)))) (B + 1) M1 → w_X12_four_p3 post j v (s + (-8)) M1 N) : w_X12_four_p3 post (j + 1) v s M N := by
  rw [w_X12_four_p3_s]
  unfold w_X12_four_p3_b
  have s8 : ∀ (g : am_I) (i : Nat) (x : Int32), am_u g (3, 0, 43) i x (3, 0, 0) = g (3, 0, 0) := fun g i x => am_u_o _ _ _ (by simp)
  rw [s8, T.1, nI_clamp (show B < 2 ^ 31 by omega), by_sb, nI_1]
  refine ⟨fun z => absurd z hs, fun _ => ⟨vp_in_nI hB (by omega), h _ ⟨fun c q1 q2 => by rw [am_u_o _ _ _ q1, am_u_o _ _ _ q2], fun j q => by rw [am_u_c, pk_un q, s8]⟩ ⟨by rw [am_u_c, pk_us], fun i hi => ?_⟩⟩⟩
  rw [am_u_o _ _ _ (by simp), am_u_c]
  by_cases e : i = B
  · subst e; rw [uN_s, pk_us]; exact ⟨by_lt _, rfl⟩
  · rw [uN_o e, pk_un e]; exact T.2 i (by omega)
theorem c_append (T : TpF t B M) (hB : B + 4 ≤ 500) (h : ∀ M1, Fr8 M M1 → TpF (t4 v t B) (B + 4) M1 → post M1 N) : w_X7_append v M N post := by
  unfold w_X7_append
  refine ⟨5, c_ap1 T (by omega) (by decide) (fun M1 F1 T1 => c_ap1 T1 (by omega) (by decide) (fun M2 F2 T2 => c_ap1 T2 (by omega) (by decide) (fun M3 F3 T3 => c_ap1 T3 (by omega) (by decide) (fun M4 F4 T4 => ?_))))⟩
  rw [w_X7_append_p3_s]
  unfold w_X7_append_p3_b
  exact ⟨fun _ => h M4 (((F1.tr F2).tr F3).tr F4) T4, fun z => absurd (by decide) z⟩
theorem r_four (T : TpM t B M) (hB : B + 4 ≤ 500) (h : ∀ M1, Fr43 M M1 → TpM (t4 v t B) (B + 4) M1 → post M1 N) : w_X12_four v M N post := by
  unfold w_X12_four
  refine ⟨5, r_ap1 T (by omega) (by decide) (fun M1 F1 T1 => r_ap1 T1 (by omega) (by decide) (fun M2 F2 T2 => r_ap1 T2 (by omega) (by decide) (fun M3 F3 T3 => r_ap1 T3 (by omega) (by decide) (fun M4 F4 T4 => ?_))))⟩
  rw [w_X12_four_p3_s]
  unfold w_X12_four_p3_b
  exact ⟨fun _ => h M4 (((F1.tr F2).tr F3).tr F4) T4, fun z => absurd (by decide) z⟩
theorem FrY.rf : FrY M N M N := ⟨fun _ _ _ => ⟨rfl, rfl⟩, fun _ _ => rfl, rfl⟩
theorem call_feed (h : INVR M) : w_X11_feed a1 a2 a3 a4 a5 M N (fun r M1 N1 => w_X12_feed a1 a2 a3 a4 a5 M1 N1 (fun r2 M2 N2 => r = r2 ∧ FrY M N M2 N2 ∧ INVR M2)) := by
  obtain ⟨t, B, r, ft, PP, SS, I⟩ := h
  have hB := I.b
  unfold w_X11_feed w_X7_hasRoomForFive
  rw [I.bc]
  have e20 : nI B + 20 = nI (B + 20) := nI_add B 20
  rw [e20]
  refine ⟨fun z => ⟨fun w => absurd rfl w, fun _ => ?_⟩, fun z => ⟨fun _ => ?_, fun w => absurd w (by decide)⟩⟩
  · show w_X12_feed a1 a2 a3 a4 a5 M N _
    unfold w_X12_feed
    rw [I.bm, e20]
    refine ⟨fun w => ?_, fun _ => ⟨rfl, FrY.rf, _, _, _, _, _, _, I⟩⟩
    have h1 := (nI_ltI (a := 500) (by omega) (by omega)).mp z
    have h2 := (nI_leI (b := 500) (by omega) (by omega)).mp w
    omega
  · have hB20 : B + 20 ≤ 500 := by
      refine Nat.le_of_not_lt fun w => z (nI_lt (a := 500) w (by omega))
    have T0 : TpF t B M := ⟨I.bc, fun i hi => ⟨(I.tp i hi).1, (I.tp i hi).2.1⟩⟩
    have U0 : TpM t B M := ⟨I.bm, fun i hi => ⟨(I.tp i hi).1, (I.tp i hi).2.2⟩⟩
    refine c_append T0 (by omega) (fun M1 F1 T1 => c_append T1 (by omega) (fun M2 F2 T2 => c_append T2 (by omega) (fun M3 F3 T3 => c_append T3 (by omega) (fun M4 F4 T4 => c_append T4 (by omega) (fun M5 F5 T5 => ?_)))))
    generalize hT : t4 a5 (t4 a4 (t4 a3 (t4 a2 (t4 a1 t B) (B + 4)) (B + 4 + 4)) (B + 4 + 4 + 4)) (B + 4 + 4 + 4 + 4) = t' at T5
    have F : Fr8 M M5 := (((F1.tr F2).tr F3).tr F4).tr F5
    have U1 : TpM t B M5 := ⟨by rw [F.1 _ (by simp) (by simp)]; exact U0.1, fun i hi => by rw [F.1 _ (by simp) (by simp)]; exact U0.2 i hi⟩
    show w_X12_feed a1 a2 a3 a4 a5 M5 N _
    unfold w_X12_feed
    rw [U1.1, e20]
    refine ⟨fun _ => ?_, fun w => absurd (nI_le (b := 500) hB20 (by omega)) w⟩
    refine r_four U1 (by omega) (fun L1 G1 V1 => r_four V1 (by omega) (fun L2 G2 V2 => r_four V2 (by omega) (fun L3 G3 V3 => r_four V3 (by omega) (fun L4 G4 V4 => r_four V4 (by omega) (fun L5 G5 V5 => ?_)))))
    rw [hT] at V5
    have G : Fr43 M5 L5 := (((G1.tr G2).tr G3).tr G4).tr G5
    have k0 : ∀ c : am_C, c ≠ (0, 0, 7) → c ≠ (0, 0, 8) → c ≠ (3, 0, 0) → c ≠ (3, 0, 43) → L5 c = M c := fun c q1 q2 q3 q4 => (G.1 c q3 q4).trans (F.1 c q1 q2)
    have k3 : ∀ j, j ≠ 47 → L5 (3, 0, 0) j = M (3, 0, 0) j := fun j q => by rw [G.2 j q, F.1 _ (by simp) (by simp)]
    refine ⟨by rw [T5.1, V5.1], ⟨fun c q1 q2 => ⟨k0 c (fun w => ?_) (fun w => ?_) (fun w => ?_) (fun w => ?_), rfl⟩, fun j hj => k3 j (by omega), rfl⟩, t', B + 4 + 4 + 4 + 4 + 4, r, ft, PP, SS, ?_⟩
    · rw [w] at q1; exact q1 ⟨rfl, Or.inr (by decide)⟩
    · rw [w] at q1; exact q1 ⟨rfl, Or.inr (by decide)⟩
    · rw [w] at q2; exact q2 ⟨rfl, Or.inl rfl⟩
    · rw [w] at q2; exact q2 ⟨rfl, Or.inr (by decide)⟩
    · refine ⟨hB20, fun i hi => ⟨(T5.2 i hi).1, ?_, (V5.2 i hi).2⟩, ?_, V5.1, I.r8, ?_, ?_, ?_, ?_, ?_, I.sl, ?_, I.pl, I.p0, I.ok, fun hr => ?_, I.cl, ?_, ?_, fun i hi => ?_⟩
      · rw [G.1 _ (by simp) (by simp)]; exact (T5.2 i hi).2
      · rw [G.1 _ (by simp) (by simp)]; exact T5.1
      · rw [k0 _ (by simp) (by simp) (by simp) (by simp)]; exact I.rc
      · rw [k3 45 (by decide)]; exact I.rm
      · rw [k0 _ (by simp) (by simp) (by simp) (by simp)]; exact I.fc
      · rw [k3 51 (by decide)]; exact I.fm
      · rw [k3 46 (by decide)]; exact I.sz
      · exact I.sp.cg (k0 _ (by simp) (by simp) (by simp) (by simp)) (k0 _ (by simp) (by simp) (by simp) (by simp))
      · rw [k0 (3, 0, 34) (by simp) (by simp) (by simp) (by simp)]
        refine ⟨(I.pg hr).1.rows (a := PP.length) (Nat.le_refl _) (fun j _ => ?_), (I.pg hr).2⟩
        rw [k0 (3, 0, 35) (by simp) (by simp) (by simp) (by simp), k0 (3, 0, 36) (by simp) (by simp) (by simp) (by simp), k0 (3, 0, 37) (by simp) (by simp) (by simp) (by simp), k0 (3, 0, 38) (by simp) (by simp) (by simp) (by simp)]
        exact ⟨rfl, rfl, rfl, rfl⟩
      · rw [k0 _ (by simp) (by simp) (by simp) (by simp)]; exact I.cz
      · rw [k0 _ (by simp) (by simp) (by simp) (by simp)]; exact I.cn
      · rw [k0 _ (by simp) (by simp) (by simp) (by simp)]; exact I.cd i hi
theorem call_fault (h : INVR M) : w_X11_fault M N (fun r M1 N1 => w_X12_fault M1 N1 (fun r2 M2 N2 => r = r2 ∧ M2 = M ∧ N2 = N)) := by
  obtain ⟨t, B, r, ft, PP, SS, I⟩ := h
  unfold w_X11_fault w_X12_fault
  exact ⟨by rw [I.fc, I.fm], rfl, rfl⟩
end FD
