/-! ===== a plant is told: both sides ===== -/
def sumN (pr : Nat → Nat) : Nat → Nat
  | 0 => 0
  | n + 1 => sumN pr n + pr n
theorem sumN_le {pr : Nat → Nat} : ∀ {n : Nat}, (∀ k, k < n → pr k ≤ 100) → sumN pr n ≤ 100 * n
  | 0, _ => Nat.le_refl _
  | n + 1, h => by
    have := sumN_le (n := n) (fun k hk => h k (by omega))
    have := h n (by omega)
    unfold sumN
    omega
theorem sumN_pos {pr : Nat → Nat} {n : Nat} (h : ∀ k, k < n → 1 ≤ pr k) (hn : 0 < n) : 0 < sumN pr n := by
  cases n with
  | zero => omega
  | succ n =>
    have := h n (by omega)
    unfold sumN
    omega
/-- the shares of a new plant -/
def sowS (pr : Nat → Nat) (nk : Nat) (k : Nat) : Int32 := if k < nk then (lN (pr k) * 1000000000 / lN (sumN pr nk)).toInt32 else 0
def firstK (s0 s : Nat → Int32) (n : Nat) : Nat → Int32 := fun k => if k < n then s k else s0 k
theorem firstK_s (s0 s : Nat → Int32) (n : Nat) : firstK s0 s (n + 1) = upd (firstK s0 s n) n (s n) := by
  funext i
  unfold firstK upd
  by_cases h1 : i < n
  · simp [h1, show i < n + 1 by omega, show i ≠ n by omega]
  · by_cases h2 : i = n
    · subst h2; simp
    · simp [h1, h2, show ¬ i < n + 1 by omega]
theorem put5_first (f : Nat → Int32) (o : Nat) (s : Nat → Int32) : put5 f o (firstK (fun k => f (o + k)) s 5) = put5 f o s := by
  funext i
  unfold put5 firstK
  by_cases h : o ≤ i ∧ i < o + 5
  · simp [h, show i - o < 5 by omega]
  · simp [h]
section SW
variable {M : am_I} {N : am_N} {post : am_I → am_N → Prop} {b : Nat}
theorem sp_X12_grows {c nk : Nat} {pr : Nat → Nat} (hc : c < 64) (hnk : nk ≤ 5) (h1 : 0 < nk) (hK : M (3, 0, 1) 1634 = nI nk) (hpr : ∀ k, k < nk → M (3, 0, 20) k = nI (pr k) ∧ 1 ≤ pr k ∧ pr k ≤ 100)
    (h : post (am_s M (3, 0, 1) (upd (upd (upd (upd (upd (put5 (M (3, 0, 1)) (640 + 5 * c) (sowS pr nk)) (192 + c) 1) (256 + c) 0) (320 + c) 0) (384 + c) 0) (448 + c) 0)) N) : w_X12_grows (nI c) M N post := by
  unfold w_X12_grows
  generalize hF : M (3, 0, 1) = f at h hK
  have hsl := sumN_le (pr := pr) (n := nk) (fun k hk => (hpr k hk).2.2)
  have hsp := sumN_pos (pr := pr) (n := nk) (fun k hk => (hpr k hk).2.1) h1
  have ix : ∀ k, (640 : Int32) + 5 * nI c + nI k = nI (640 + 5 * c + k) := fun k => by rw [xm5, ix640, nI_add]
  have e20 : ∀ (g : Nat → Int32), am_s M (3, 0, 1) g (3, 0, 20) = M (3, 0, 20) := fun g => am_s_other _ _ (by decide)
  have loop2 : w_X12_grows_p33 post 6 (nI c) (nI (sumN pr nk)) 0 M N := by
    have fl : ∀ k, k ≤ 5 → foldS (fun k (s : am_I) => am_u s (3, 0, 1) (640 + 5 * c + k) (sowS pr nk k)) k M = am_s M (3, 0, 1) (put5 f (640 + 5 * c) (firstK (fun k => f (640 + 5 * c + k)) (sowS pr nk) k)) := by
      intro k
      induction k with
      | zero =>
        intro _
        have e : firstK (fun k => f (640 + 5 * c + k)) (sowS pr nk) 0 = (fun k => f (640 + 5 * c + k)) := by funext i; simp [firstK]
        show M = _
        rw [e, put5_id, ← hF, am_s_id]
      | succ k ih =>
        intro hk
        show am_u (foldS _ k _) (3, 0, 1) (640 + 5 * c + k) _ = _
        rw [ih (by omega), am_u_s, put5_upd (by omega), firstK_s]
    have k1634 : ∀ s : Nat → Int32, put5 f (640 + 5 * c) s 1634 = nI nk := fun s => by unfold put5; rw [if_neg (by omega), hK]
    refine loopN 5 (fun n i (s : am_I) => w_X12_grows_p33 post n (nI c) (nI (sumN pr nk)) i s N) (fun k s => am_u s (3, 0, 1) (640 + 5 * c + k) (sowS pr nk k)) M (fun m k hk hn => ?_) ?_
    · rw [fl k (by omega)] at hn ⊢
      rw [w_X12_grows_p33_s]
      unfold w_X12_grows_p33_b
      rw [am_s_same, k1634, ix, nI_clamp (show 640 + 5 * c + k < 2 ^ 31 by omega), nI_clamp (show k < 2 ^ 31 by omega), e20, nI_1 k]
      have v : vp_in (nI (640 + 5 * c + k)) 1635 := vp_in_nI (by omega) (by omega)
      refine ⟨fun z => absurd z (nI_ge (b := 5) hk (by omega)), fun _ => ⟨fun z => ⟨v, ?_⟩, fun z => ⟨vp_in_nI hk (by omega), ?_, v, ?_⟩⟩⟩
      · have hge : ¬ k < nk := fun y => absurd z (nI_ge y (by omega))
        have e : sowS pr nk k = 0 := by unfold sowS; rw [if_neg hge]
        rw [e] at hn
        exact hn
      · rw [nI_l (by omega)]
        intro y
        have := (pk_lEQ (b := 0) (by omega) (by omega)).mp y
        omega
      · have hlt : k < nk := by
          rcases Nat.lt_or_ge k nk with y | y
          · exact y
          · exact absurd (nI_le y (by omega)) z
        have e : sowS pr nk k = (lN (pr k) * 1000000000 / lN (sumN pr nk)).toInt32 := by unfold sowS; rw [if_pos hlt]
        obtain ⟨p1, p2, p3⟩ := hpr k hlt
        rw [p1, nI_l (by omega), nI_l (by omega), ← e]
        exact hn
    · rw [fl 5 (Nat.le_refl _), put5_first]
      rw [w_X12_grows_p33_s]
      unfold w_X12_grows_p33_b
      rw [ix192, ix256, ix320, ix384, ix448, nI_clamp (show 192 + c < 2 ^ 31 by omega), nI_clamp (show 256 + c < 2 ^ 31 by omega), nI_clamp (show 320 + c < 2 ^ 31 by omega), nI_clamp (show 384 + c < 2 ^ 31 by omega), nI_clamp (show 448 + c < 2 ^ 31 by omega), am_u_s, am_u_s, am_u_s, am_u_s, am_u_s]
      exact ⟨fun _ => ⟨vp_in_nI (by omega) (by omega), vp_in_nI (by omega) (by omega), vp_in_nI (by omega) (by omega), vp_in_nI (by omega) (by omega), vp_in_nI (by omega) (by omega), h⟩, fun z => absurd (Int32.le_refl _) z⟩
  have key : ∀ (j k : Nat), k + j = nk → w_X12_grows_p4 post (j + 1) (nI c) (nI (sumN pr k)) (nI k) M N := by
    intro j
    induction j with
    | zero =>
      intro k hk
      have e : k = nk := by omega
      subst e
      rw [w_X12_grows_p4_s]
      unfold w_X12_grows_p4_b
      rw [hF, hK]
      exact ⟨fun _ => ⟨6, loop2⟩, fun z => absurd (Int32.le_refl _) z⟩
    | succ j ih =>
      intro k hk
      have hkn : k < nk := by omega
      have hn := ih (k + 1) (by omega)
      rw [w_X12_grows_p4_s]
      unfold w_X12_grows_p4_b
      rw [hF, hK, nI_clamp (show k < 2 ^ 31 by omega), (hpr k hkn).1, nI_add, nI_1 k]
      refine ⟨fun z => absurd z (nI_ge hkn (by omega)), fun _ => ⟨vp_in_nI (by omega) (by omega), fun u hu => ?_⟩⟩
      subst hu
      exact hn
  exact ⟨nk + 1, key nk 0 (by omega)⟩
theorem sp_X12_dies {c : Nat} {why : Int32} (hc : c < 64) (h : post (am_s M (3, 0, 1) (upd (upd (M (3, 0, 1)) (192 + c) 0) (576 + c) why)) N) : w_X12_dies (nI c) why M N post := by
  unfold w_X12_dies
  rw [ix192, ix576, nI_clamp (show 192 + c < 2 ^ 31 by omega), nI_clamp (show 576 + c < 2 ^ 31 by omega)]
  refine ⟨vp_in_nI (by omega) (by omega), vp_in_nI (by omega) (by omega), ?_⟩
  unfold am_u
  rw [am_s_same, am_s_s]
  exact h
theorem sp_X6_remove {c : Nat} {why : Int32} (hc : c < 64) (h1 : tb (N (1, b, 6) 8) c = true → post (am_u M (1, b, 11) c why) (am_ul (am_ul N (1, b, 6) 8 (N (1, b, 6) 8 &&& (am_bit (nI c) ^^^ (-1)))) (1, b, 6) 9 (N (1, b, 6) 9 &&& (am_bit (nI c) ^^^ (-1))))) (h0 : tb (N (1, b, 6) 8) c = false → post M N) : w_X6_remove b (nI c) why M N post := by
  unfold w_X6_remove
  refine sp_X6_standsOn hc (fun e => ⟨fun z => absurd z (by decide), fun _ => ?_⟩) (fun e => ⟨fun _ => h0 e, fun z => absurd rfl z⟩)
  rw [eq_X11_bit, eq_X11_bit, nI_clamp (show c < 2 ^ 31 by omega)]
  refine ⟨vp_in_nI hc (by omega), ?_⟩
  have e9 : am_ul N (1, b, 6) 8 (N (1, b, 6) 8 &&& (am_bit (nI c) ^^^ (-1))) (1, b, 6) 9 = N (1, b, 6) 9 := by rw [am_ul_c, pk_uLn (by decide)]
  rw [e9]
  exact h1 e
end SW
