/-! ===== places of the field as numbers; the reference's small methods on them ===== -/
theorem ix64 (c : Nat) : (64 : Int32) + nI c = nI (64 + c) := nI_add 64 c
theorem xm64 (c : Nat) : (64 : Int32) * nI c = nI (64 * c) := pk_mul 64 c
theorem ix128 (c : Nat) : (128 : Int32) + nI c = nI (128 + c) := nI_add 128 c
theorem xm128 (c : Nat) : (128 : Int32) * nI c = nI (128 * c) := pk_mul 128 c
theorem ix192 (c : Nat) : (192 : Int32) + nI c = nI (192 + c) := nI_add 192 c
theorem xm192 (c : Nat) : (192 : Int32) * nI c = nI (192 * c) := pk_mul 192 c
theorem ix256 (c : Nat) : (256 : Int32) + nI c = nI (256 + c) := nI_add 256 c
theorem xm256 (c : Nat) : (256 : Int32) * nI c = nI (256 * c) := pk_mul 256 c
theorem ix320 (c : Nat) : (320 : Int32) + nI c = nI (320 + c) := nI_add 320 c
theorem xm320 (c : Nat) : (320 : Int32) * nI c = nI (320 * c) := pk_mul 320 c
theorem ix384 (c : Nat) : (384 : Int32) + nI c = nI (384 + c) := nI_add 384 c
theorem xm384 (c : Nat) : (384 : Int32) * nI c = nI (384 * c) := pk_mul 384 c
theorem ix448 (c : Nat) : (448 : Int32) + nI c = nI (448 + c) := nI_add 448 c
theorem xm448 (c : Nat) : (448 : Int32) * nI c = nI (448 * c) := pk_mul 448 c
theorem ix512 (c : Nat) : (512 : Int32) + nI c = nI (512 + c) := nI_add 512 c
theorem xm512 (c : Nat) : (512 : Int32) * nI c = nI (512 * c) := pk_mul 512 c
theorem ix576 (c : Nat) : (576 : Int32) + nI c = nI (576 + c) := nI_add 576 c
theorem xm576 (c : Nat) : (576 : Int32) * nI c = nI (576 * c) := pk_mul 576 c
theorem ix640 (c : Nat) : (640 : Int32) + nI c = nI (640 + c) := nI_add 640 c
theorem xm640 (c : Nat) : (640 : Int32) * nI c = nI (640 * c) := pk_mul 640 c
theorem ix960 (c : Nat) : (960 : Int32) + nI c = nI (960 + c) := nI_add 960 c
theorem xm960 (c : Nat) : (960 : Int32) * nI c = nI (960 * c) := pk_mul 960 c
theorem ix968 (c : Nat) : (968 : Int32) + nI c = nI (968 + c) := nI_add 968 c
theorem xm968 (c : Nat) : (968 : Int32) * nI c = nI (968 * c) := pk_mul 968 c
theorem ix976 (c : Nat) : (976 : Int32) + nI c = nI (976 + c) := nI_add 976 c
theorem xm976 (c : Nat) : (976 : Int32) * nI c = nI (976 * c) := pk_mul 976 c
theorem ix984 (c : Nat) : (984 : Int32) + nI c = nI (984 + c) := nI_add 984 c
theorem xm984 (c : Nat) : (984 : Int32) * nI c = nI (984 * c) := pk_mul 984 c
theorem ix992 (c : Nat) : (992 : Int32) + nI c = nI (992 + c) := nI_add 992 c
theorem xm992 (c : Nat) : (992 : Int32) * nI c = nI (992 * c) := pk_mul 992 c
theorem ix1504 (c : Nat) : (1504 : Int32) + nI c = nI (1504 + c) := nI_add 1504 c
theorem xm1504 (c : Nat) : (1504 : Int32) * nI c = nI (1504 * c) := pk_mul 1504 c
theorem ix1564 (c : Nat) : (1564 : Int32) + nI c = nI (1564 + c) := nI_add 1564 c
theorem xm1564 (c : Nat) : (1564 : Int32) * nI c = nI (1564 * c) := pk_mul 1564 c
theorem ix1626 (c : Nat) : (1626 : Int32) + nI c = nI (1626 + c) := nI_add 1626 c
theorem xm1626 (c : Nat) : (1626 : Int32) * nI c = nI (1626 * c) := pk_mul 1626 c
theorem ix100 (c : Nat) : (100 : Int32) + nI c = nI (100 + c) := nI_add 100 c
theorem xm100 (c : Nat) : (100 : Int32) * nI c = nI (100 * c) := pk_mul 100 c
theorem ix1 (c : Nat) : (1 : Int32) + nI c = nI (1 + c) := nI_add 1 c
theorem xm1 (c : Nat) : (1 : Int32) * nI c = nI (1 * c) := pk_mul 1 c
theorem ix2 (c : Nat) : (2 : Int32) + nI c = nI (2 + c) := nI_add 2 c
theorem xm2 (c : Nat) : (2 : Int32) * nI c = nI (2 * c) := pk_mul 2 c
theorem ix4 (c : Nat) : (4 : Int32) + nI c = nI (4 + c) := nI_add 4 c
theorem xm4 (c : Nat) : (4 : Int32) * nI c = nI (4 * c) := pk_mul 4 c
theorem ix5 (c : Nat) : (5 : Int32) + nI c = nI (5 + c) := nI_add 5 c
theorem xm5 (c : Nat) : (5 : Int32) * nI c = nI (5 * c) := pk_mul 5 c
theorem ix8 (c : Nat) : (8 : Int32) + nI c = nI (8 + c) := nI_add 8 c
theorem xm8 (c : Nat) : (8 : Int32) * nI c = nI (8 * c) := pk_mul 8 c
theorem ix10 (c : Nat) : (10 : Int32) + nI c = nI (10 + c) := nI_add 10 c
theorem xm10 (c : Nat) : (10 : Int32) * nI c = nI (10 * c) := pk_mul 10 c
theorem ix20 (c : Nat) : (20 : Int32) + nI c = nI (20 + c) := nI_add 20 c
theorem xm20 (c : Nat) : (20 : Int32) * nI c = nI (20 * c) := pk_mul 20 c
theorem ix24 (c : Nat) : (24 : Int32) + nI c = nI (24 + c) := nI_add 24 c
theorem xm24 (c : Nat) : (24 : Int32) * nI c = nI (24 * c) := pk_mul 24 c
def besN (a k : Nat) : Option Nat := match k with
  | 0 => if a < 8 then none else some (a - 8)
  | 1 => if a % 8 = 0 then none else some (a - 1)
  | 2 => if a % 8 = 7 then none else some (a + 1)
  | _ => if 56 ≤ a then none else some (a + 8)
def besV (a k : Nat) : Int32 := match besN a k with
  | none => -1
  | some c => nI c
theorem am_bes_N : ∀ a, a < 64 → ∀ k, k < 4 → am_bes (nI a) (nI k) = besV a k := by decide +kernel
theorem besN_lt : ∀ a, a < 64 → ∀ k, k < 4 → ∀ c, besN a k = some c → c < 64 := by
  intro a ha k hk c h
  unfold besN at h
  split at h <;> split at h <;> first | (cases h; done) | (cases h; omega)
theorem besN_sym : ∀ a, a < 64 → ∀ c, c < 64 → (∃ k, k < 4 ∧ besN a k = some c) → ∃ k, k < 4 ∧ besN c k = some a := by decide +kernel
theorem far_bes : ∀ a, a < 64 → ∀ c, c < 64 → (am_far (nI a) (nI c) = 1 ↔ ∃ k, k < 4 ∧ besN a k = some c) := by decide +kernel
def nbr (a c : Nat) : Prop := a < 64 ∧ c < 64 ∧ ∃ k, k < 4 ∧ besN a k = some c
theorem nbr_sym (a c : Nat) (h : nbr a c) : nbr c a := ⟨h.2.1, h.1, besN_sym a h.1 c h.2.1 h.2.2⟩
theorem nI_ne_m1 {c : Nat} (h : c < 2 ^ 31) : ¬ nI c = -1 := by
  intro e
  have := congrArg Int32.toInt e
  rw [nI_toInt h] at this
  have e2 : (-1 : Int32).toInt = -1 := by decide
  rw [e2] at this
  omega
theorem besV_none {a k : Nat} (h : besN a k = none) : besV a k = -1 := by unfold besV; rw [h]
theorem besV_some {a k c : Nat} (h : besN a k = some c) : besV a k = nI c := by unfold besV; rw [h]
section PM
variable {M : am_I} {N : am_N} {post : Int32 → am_I → am_N → Prop} {postV : am_I → am_N → Prop}
theorem eq_X12_besN {a k : Nat} (ha : a < 64) (hk : k < 4) : w_X12_beside (nI a) (nI k) M N post ↔ post (besV a k) M N := by
  rw [eq_X12_beside, am_bes_N a ha k hk]
theorem eq_X11_besN {a k : Nat} (ha : a < 64) (hk : k < 4) : w_X11_beside (nI a) (nI k) M N post ↔ post (besV a k) M N := by
  refine Iff.trans ?_ (eq_X12_besN ha hk)
  unfold w_X11_beside w_X12_beside
  have e : (64 : Int32) ≤ nI a + 8 ↔ 56 ≤ nI a := by
    rw [show nI a + 8 = nI (a + 8) from nI_add a 8]
    rw [show ((64 : Int32) ≤ nI (a + 8)) ↔ 64 ≤ a + 8 from nI_leI (a := 64) (b := a + 8) (by omega) (by omega), show ((56 : Int32) ≤ nI a) ↔ 56 ≤ a from nI_leI (a := 56) (b := a) (by omega) (by omega)]
    omega
  rw [e]
def GoalN (goal : Nat) (bes : Int32) (c : Nat) : Prop := c < 64 ∧ (if bes = 0 then c = goal else ∃ k, k < 4 ∧ besN c k = some goal)
theorem GoalN_dec (goal : Nat) (bes : Int32) (c : Nat) : GoalN goal bes c ∨ ¬ GoalN goal bes c := Classical.em _
theorem sp_X12_isGoal {c goal : Nat} {bes : Int32} (hc : c < 64) (hg : goal < 64) (h1 : GoalN goal bes c → post 1 M N) (h0 : ¬ GoalN goal bes c → post 0 M N) : w_X12_isGoal (nI c) (nI goal) bes M N post := by
  unfold w_X12_isGoal
  simp only [eq_X12_far]
  refine ⟨fun e => ⟨fun n => h0 ?_, fun n => h1 ?_⟩, fun e => ⟨fun n => h0 ?_, fun n => h1 ?_⟩⟩
  · rintro ⟨-, z⟩
    rw [if_pos e] at z
    exact n (by rw [z])
  · refine ⟨hc, ?_⟩
    rw [if_pos e]
    exact (nI_eq (by omega) (by omega)).mp n
  · rintro ⟨-, z⟩
    rw [if_neg e] at z
    exact n ((far_bes c hc goal hg).mpr z)
  · refine ⟨hc, ?_⟩
    rw [if_neg e]
    exact (far_bes c hc goal hg).mp n
end PM

