/-! ===== a plant is seen: the class ===== -/
def wgh (od : Nat → Int32) (marks : Int32) (v : Int64) : Nat → Int64
  | 0 => v
  | m + 1 => (wgh od marks v m * (if (marks >>> (nI m &&& 31)) &&& 1 = 1 then od m else 100 - od m).toInt64) / 100
def partS (od : Nat → Nat → Int32) (marks : Int32) (sh : Nat → Int32) (k : Nat) : Int64 := wgh (od k) marks (sh k).toInt64 4
def psum (od : Nat → Nat → Int32) (marks : Int32) (sh : Nat → Int32) : Nat → Int64
  | 0 => 0
  | n + 1 => psum od marks sh n + partS od marks sh n
/-- the shares behind it, the first n of the five -/
def newS (od : Nat → Nat → Int32) (marks : Int32) (sh : Nat → Int32) (n : Nat) : Nat → Int32 := fun k => if k < n then (partS od marks sh k * 1000000000 / psum od marks sh 5).toInt32 else sh k
theorem newS_s (od : Nat → Nat → Int32) (marks : Int32) (sh : Nat → Int32) (n : Nat) : newS od marks sh (n + 1) = upd (newS od marks sh n) n (partS od marks sh n * 1000000000 / psum od marks sh 5).toInt32 := by
  funext i
  unfold newS upd
  by_cases h1 : i < n
  · simp [h1, show i < n + 1 by omega, show i ≠ n by omega]
  · by_cases h2 : i = n
    · subst h2; simp
    · simp [h1, h2, show ¬ i < n + 1 by omega]
/-- five places of a row, from o on, replaced -/
def put5 (f : Nat → Int32) (o : Nat) (s : Nat → Int32) : Nat → Int32 := fun i => if o ≤ i ∧ i < o + 5 then s (i - o) else f i
theorem put5_upd {f : Nat → Int32} {o k : Nat} {s : Nat → Int32} {x : Int32} (hk : k < 5) : upd (put5 f o s) (o + k) x = put5 f o (upd s k x) := by
  funext i
  unfold put5 upd
  by_cases e : i = o + k
  · subst e; simp [hk]
  · by_cases h : o ≤ i ∧ i < o + 5
    · simp [e, h, show i - o ≠ k by omega]
    · simp [e, h]
theorem put5_id (f : Nat → Int32) (o : Nat) : put5 f o (fun k => f (o + k)) = f := by
  funext i
  unfold put5
  by_cases h : o ≤ i ∧ i < o + 5
  · rw [if_pos h]
    show f (o + (i - o)) = f i
    rw [show o + (i - o) = i by omega]
  · rw [if_neg h]
section SE
variable {M : am_I} {N : am_N} {post : am_I → am_N → Prop} {postL : Int64 → am_I → am_N → Prop} {postI : Int32 → am_I → am_N → Prop} {b : Nat}
/-- the odds that the class reads for kind k -/
def oddsC (M : am_I) (od : Nat → Nat → Int32) : Prop := ∀ k, k < 5 → ∀ m, m < 4 → ∀ (M' : am_I) (N' : am_N) (p : Int32 → am_I → am_N → Prop), M' (2, 4, 0) = M (2, 4, 0) → M' (2, 4, 1) = M (2, 4, 1) → p (od k m) M' N' → w_X9_at 4 (nI k) (nI (2 + m)) M' N' p
theorem sp_X6_weigh {od : Nat → Nat → Int32} (hod : oddsC M od) {k : Nat} (hk : k < 5) {v : Int64} {marks : Int32} {M' : am_I} (e0 : M' (2, 4, 0) = M (2, 4, 0)) (e1 : M' (2, 4, 1) = M (2, 4, 1)) (h : postL (wgh (od k) marks v 4) M' N) : w_X6_weigh b (nI k) v marks M' N postL := by
  unfold w_X6_weigh
  have key : ∀ (j m : Nat), m + j = 4 → w_X6_weigh_p6 b postL (j + 1) (nI k) marks (wgh (od k) marks v m) (nI m) M' N := by
    intro j
    induction j with
    | zero =>
      intro m hm
      have e : m = 4 := by omega
      subst e
      rw [w_X6_weigh_p6_s]
      unfold w_X6_weigh_p6_b
      exact ⟨fun _ => h, fun z => absurd (Int32.le_refl _) z⟩
    | succ j ih =>
      intro m hm
      have hm4 : m < 4 := by omega
      have hn := ih (m + 1) (by omega)
      rw [w_X6_weigh_p6_s]
      unfold w_X6_weigh_p6_b w_X6_weigh_p45 w_X6_weigh_p64
      rw [ix2, nI_1]
      refine ⟨fun z => absurd z (nI_ge (b := 4) hm4 (by omega)), fun _ => hod k hk m hm4 _ _ _ e0 e1 ⟨fun z => ⟨fun _ v hv => ?_, fun y => absurd rfl y⟩, fun z => ⟨fun y => absurd y (by decide), fun _ v hv => ?_⟩⟩⟩
      · subst hv
        have e : wgh (od k) marks v (m + 1) = (wgh (od k) marks v m * (if (marks >>> (nI m &&& 31)) &&& 1 = 1 then od k m else 100 - od k m).toInt64) / 100 := rfl
        rw [e, if_neg z] at hn
        exact hn
      · subst hv
        have e : wgh (od k) marks v (m + 1) = (wgh (od k) marks v m * (if (marks >>> (nI m &&& 31)) &&& 1 = 1 then od k m else 100 - od k m).toInt64) / 100 := rfl
        rw [e, if_pos z] at hn
        exact hn
  exact ⟨5, key 4 0 (by omega)⟩
theorem sp_X6_standsOn {c : Nat} (hc : c < 64) (h1 : tb (N (1, b, 6) 8) c = true → postI 1 M N) (h0 : tb (N (1, b, 6) 8) c = false → postI 0 M N) : w_X6_standsOn b (nI c) M N postI := by
  unfold w_X6_standsOn
  rw [eq_X11_isCell]
  have hcell : (0 : Int32) ≤ nI c ∧ nI c ≤ 63 := ⟨nI_pos' (by omega), nI_le (b := 63) (by omega) (by omega)⟩
  rw [am_bt hcell]
  refine ⟨fun z => absurd z (by decide), fun _ => ?_⟩
  rw [eq_X11_bit]
  exact ⟨fun z => h0 ((bit_and_0 hc).mp z), fun z => h1 ((bit_and_ne hc).mp z)⟩
theorem sp_X6_standsOut {x : Int32} (hx : ¬ (0 ≤ x ∧ x ≤ 63)) (h0 : postI 0 M N) : w_X6_standsOn b x M N postI := by
  unfold w_X6_standsOn
  rw [eq_X11_isCell, am_bf hx]
  exact ⟨fun _ => h0, fun z => absurd rfl z⟩
theorem sp_X6_isIll {c : Nat} (hc : c < 64) (h1 : tb (N (1, b, 6) 9) c = true → postI 1 M N) (h0 : tb (N (1, b, 6) 9) c = false → postI 0 M N) : w_X6_isIll b (nI c) M N postI := by
  unfold w_X6_isIll
  rw [eq_X11_isCell]
  have hcell : (0 : Int32) ≤ nI c ∧ nI c ≤ 63 := ⟨nI_pos' (by omega), nI_le (b := 63) (by omega) (by omega)⟩
  rw [am_bt hcell]
  refine ⟨fun z => absurd z (by decide), fun _ => ?_⟩
  rw [eq_X11_bit]
  exact ⟨fun z => h0 ((bit_and_0 hc).mp z), fun z => h1 ((bit_and_ne hc).mp z)⟩
/-- see(cell, marks) of the class, on a plant -/
theorem sp_X6_see {od : Nat → Nat → Int32} (hod : oddsC M od) {c : Nat} (hc : c < 64) (hst : tb (N (1, b, 6) 8) c = true) {marks : Int32}
    (h : ∀ wv : Nat → Int64, post (am_s (am_u M (1, b, 8) c (M (1, b, 8) c + 1)) (1, b, 12) (if 0 < psum od marks (fun k => M (1, b, 12) (5 * c + k)) 5 then put5 (M (1, b, 12)) (5 * c) (newS od marks (fun k => M (1, b, 12) (5 * c + k)) 5) else M (1, b, 12))) (am_s N (1, b, 13) wv)) : w_X6_see b (nI c) marks M N post := by
  unfold w_X6_see
  refine sp_X6_standsOn hc (fun _ => ⟨fun _ => ?_, fun z => absurd z (by decide)⟩) (fun z => by rw [hst] at z; cases z)
  rw [nI_clamp (show c < 2 ^ 31 by omega)]
  have v : vp_in (nI c) 64 := vp_in_nI hc (by omega)
  refine ⟨v, v, ?_⟩
  generalize hM1 : am_u M (1, b, 8) c (M (1, b, 8) c + 1) = M1 at h
  have s1 : M1 (1, b, 12) = M (1, b, 12) := by rw [← hM1, am_u_o _ _ _ (by simp)]
  have t0 : M1 (2, 4, 0) = M (2, 4, 0) := by rw [← hM1, am_u_o _ _ _ (by simp)]
  have t1 : M1 (2, 4, 1) = M (2, 4, 1) := by rw [← hM1, am_u_o _ _ _ (by simp)]
  generalize hsh : (fun k => M (1, b, 12) (5 * c + k)) = sh at h
  have shk : ∀ k, M (1, b, 12) (5 * c + k) = sh k := fun k => by rw [← hsh]
  have ix : ∀ k, nI c * 5 + nI k = nI (5 * c + k) := fun k => by rw [show nI c * 5 = nI (c * 5) from pk_mul c 5, nI_add, Nat.mul_comm]
  -- the shares are written
  have fin : ∀ (wv : Nat → Int64), (∀ k, k < 5 → wv k = partS od marks sh k) → 0 < psum od marks sh 5 → w_X6_see_p82 b post 6 (nI c) (psum od marks sh 5) 0 M1 (am_s N (1, b, 13) wv) := by
    intro wv hwv hpos
    have hne : ¬ psum od marks sh 5 = 0 := fun e => by rw [e] at hpos; exact absurd hpos (by decide)
    rw [if_pos hpos] at h
    have fl : ∀ k, k ≤ 5 → foldS (fun k (s : am_I) => am_u s (1, b, 12) (5 * c + k) (partS od marks sh k * 1000000000 / psum od marks sh 5).toInt32) k M1 = am_s M1 (1, b, 12) (put5 (M (1, b, 12)) (5 * c) (newS od marks sh k)) := by
      intro k
      induction k with
      | zero =>
        intro _
        have e : newS od marks sh 0 = sh := by funext i; simp [newS]
        show M1 = _
        rw [e, ← hsh, put5_id, ← s1, am_s_id]
      | succ k ih =>
        intro hk
        show am_u (foldS _ k _) (1, b, 12) (5 * c + k) _ = _
        rw [ih (by omega), am_u_s, put5_upd (by omega), newS_s]
    refine loopN 5 (fun n i (s : am_I) => w_X6_see_p82 b post n (nI c) (psum od marks sh 5) i s (am_s N (1, b, 13) wv)) (fun k s => am_u s (1, b, 12) (5 * c + k) (partS od marks sh k * 1000000000 / psum od marks sh 5).toInt32) M1 (fun m k hk hn => ?_) ?_
    · rw [w_X6_see_p82_s]
      unfold w_X6_see_p82_b
      rw [ix, nI_clamp (show k < 2 ^ 31 by omega), nI_clamp (show 5 * c + k < 2 ^ 31 by omega), am_s_same, hwv k hk, nI_1]
      exact ⟨fun z => absurd z (nI_ge (b := 5) hk (by omega)), fun _ => ⟨vp_in_nI hk (by omega), hne, vp_in_nI (by omega) (by omega), hn⟩⟩
    · rw [fl 5 (Nat.le_refl _)]
      rw [w_X6_see_p82_s]
      unfold w_X6_see_p82_b
      exact ⟨fun _ => h wv, fun z => absurd (Int32.le_refl _) z⟩
  have key : ∀ (j k : Nat), k + j = 5 → ∀ wv : Nat → Int64, (∀ i, i < k → wv i = partS od marks sh i) → w_X6_see_p24 b post (j + 1) (nI c) marks (psum od marks sh k) (nI k) M1 (am_s N (1, b, 13) wv) := by
    intro j
    induction j with
    | zero =>
      intro k hk wv hwv
      have e : k = 5 := by omega
      subst e
      rw [w_X6_see_p24_s]
      unfold w_X6_see_p24_b
      refine ⟨fun _ => ⟨fun z => ⟨6, fin wv hwv z⟩, fun z => ?_⟩, fun z => absurd (Int32.le_refl _) z⟩
      have h9 := h wv
      rw [if_neg z, ← s1, am_s_id] at h9
      exact h9
    | succ j ih =>
      intro k hk wv hwv
      have hk5 : k < 5 := by omega
      rw [w_X6_see_p24_s]
      unfold w_X6_see_p24_b
      rw [ix, nI_clamp (show 5 * c + k < 2 ^ 31 by omega), nI_clamp (show k < 2 ^ 31 by omega), s1, shk, nI_1]
      have v5 : vp_in (nI k) 5 := vp_in_nI hk5 (by omega)
      refine ⟨fun z => absurd z (nI_ge (b := 5) hk5 (by omega)), fun _ => ⟨vp_in_nI (by omega) (by omega), sp_X6_weigh hod hk5 t0 t1 ⟨v5, v5, fun u hu => ?_⟩⟩⟩
      rw [am_ul_at] at hu
      subst hu
      rw [am_ul_s]
      exact ih (k + 1) (by omega) _ (fun i hi => by
        by_cases e : i = k
        · subst e; rw [pk_uLs]; rfl
        · rw [pk_uLn e]; exact hwv i (by omega))
  refine ⟨6, ?_⟩
  have h9 := key 5 0 (by omega) (N (1, b, 13)) (fun i hi => by omega)
  rw [am_s_id] at h9
  exact h9
end SE
