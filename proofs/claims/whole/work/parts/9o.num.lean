/-! ===== numbers of the rules ===== -/
def iI (v : Int) : Int32 := Int32.ofInt v
def iL (v : Int) : Int64 := Int64.ofInt v
def hlI (v : Int) : Int := if v < -1000000000 then -1000000000 else if 1000000000 < v then 1000000000 else v
def big (v : Int) : Prop := -4000000000000000000 ≤ v ∧ v ≤ 4000000000000000000
def sml (v : Int) : Prop := -1000000000 ≤ v ∧ v ≤ 1000000000
section NU
variable {a b v l r : Int} {M : am_I} {N : am_N} {postI : Int32 → am_I → am_N → Prop} {postL : Int64 → am_I → am_N → Prop} {w e : Nat}
theorem iI_n (n : Nat) : iI (n : Int) = nI n := Int32.ofInt_eq_ofNat
theorem iL_n (n : Nat) : iL (n : Int) = lN n := Int64.ofInt_eq_ofNat
theorem iL_t (h : big v) : (iL v).toInt = v := Int64.toInt_ofInt_of_le (by have := h.1; omega) (by have := h.2; omega)
theorem iL_lt (h1 : big a) (h2 : big b) : iL a < iL b ↔ a < b := by rw [Int64.lt_iff_toInt_lt, iL_t h1, iL_t h2]
theorem iL_le (h1 : big a) (h2 : big b) : iL a ≤ iL b ↔ a ≤ b := by rw [Int64.le_iff_toInt_le, iL_t h1, iL_t h2]
theorem iL_eq (h1 : big a) (h2 : big b) : iL a = iL b ↔ a = b := by rw [← Int64.toInt_inj, iL_t h1, iL_t h2]
theorem sml.big (h : sml v) : big v := ⟨by have := h.1; omega, by have := h.2; omega⟩
theorem iI_t (h : sml v) : (iI v).toInt = v := Int32.toInt_ofInt_of_le (by have := h.1; omega) (by have := h.2; omega)
theorem iI_l (h : sml v) : (iI v).toInt64 = iL v := by
  rw [← Int64.toInt_inj, Int32.toInt_toInt64, iI_t h, iL_t h.big]
theorem iL_i : (iL v).toInt32 = iI v := Int64.toInt32_ofInt
theorem iL_add : iL a + iL b = iL (a + b) := (Int64.ofInt_add a b).symm
theorem iL_sub : iL a - iL b = iL (a - b) := (Int64.ofInt_sub a b).symm
theorem iL_mul : iL a * iL b = iL (a * b) := (Int64.ofInt_mul a b).symm
theorem b9 : big 1000000000 := ⟨by decide, by decide⟩
theorem b9' : big (-1000000000) := ⟨by decide, by decide⟩
theorem b0 : big 0 := ⟨by decide, by decide⟩
theorem hl_sml : sml (hlI v) := by
  unfold hlI sml
  by_cases h1 : v < -1000000000
  · rw [if_pos h1]; omega
  · rw [if_neg h1]
    by_cases h2 : 1000000000 < v
    · rw [if_pos h2]; omega
    · rw [if_neg h2]; omega
theorem hl_id (h : sml v) : hlI v = v := by
  have h1 := h.1
  have h2 := h.2
  unfold hlI
  rw [if_neg (by omega), if_neg (by omega)]
theorem r_held (h : big v) (hp : postL (iL (hlI v)) M N) : w_X12_held (iL v) M N postL := by
  have e9 : (1000000000 : Int64) = iL 1000000000 := by decide
  have e9' : (-1000000000 : Int64) = iL (-1000000000) := by decide
  unfold w_X12_held w_J9_min_f86c9 w_J9_max_f86c9
  rw [e9', e9, iL_lt h b9]
  unfold hlI at hp
  refine ⟨fun z => ?_, fun z => ?_⟩
  · show (iL (-1000000000) < iL v → postL (iL v) M N) ∧ (¬ iL (-1000000000) < iL v → postL (iL (-1000000000)) M N)
    rw [iL_lt b9' h]
    refine ⟨fun z2 => ?_, fun z2 => ?_⟩
    · rw [if_neg (by omega), if_neg (by omega)] at hp; exact hp
    · by_cases z3 : v < -1000000000
      · rw [if_pos z3] at hp; exact hp
      · rw [if_neg z3, if_neg (by omega)] at hp
        have : v = -1000000000 := by omega
        rw [this] at hp; exact hp
  · show (iL (-1000000000) < iL 1000000000 → postL (iL 1000000000) M N) ∧ (¬ iL (-1000000000) < iL 1000000000 → postL (iL (-1000000000)) M N)
    rw [iL_lt b9' b9]
    refine ⟨fun _ => ?_, fun z2 => absurd (by decide) z2⟩
    by_cases z3 : 1000000000 < v
    · rw [if_neg (by omega), if_pos z3] at hp; exact hp
    · have : v = 1000000000 := by omega
      rw [if_neg (by omega), if_neg z3, this] at hp
      exact hp
theorem c_held (h : big v) (hp : postI (iI (hlI v)) M N) : w_X3_held (iL v) M N postI := by
  have := r_held (N := N) (M := M) (postL := fun x M N => postI x.toInt32 M N) h (by show postI ((iL (hlI v)).toInt32) M N; rw [iL_i]; exact hp)
  exact this
def opI (w : Nat) (l r : Int) : Int := if w = 2 then hlI (l + r) else if w = 3 then hlI (l - r) else if w = 4 then hlI (l * r) else if w = 5 then (if r = 0 then 0 else l.tdiv r) else if w = 6 then (if l < r then 1 else 0) else if w = 7 then (if r < l then 1 else 0) else if w = 8 then (if l = r then 1 else 0) else if w = 9 then (if l = 0 ∧ r = 0 then 0 else 1) else (if l = 0 ∨ r = 0 then 0 else 1)
theorem op_2 : opI 2 l r = hlI (l + r) := by unfold opI; rw [if_pos rfl]
theorem op_3 : opI 3 l r = hlI (l - r) := by unfold opI; rw [if_neg (by decide), if_pos rfl]
theorem op_4 : opI 4 l r = hlI (l * r) := by unfold opI; rw [if_neg (by decide), if_neg (by decide), if_pos rfl]
theorem op_5 : opI 5 l r = (if r = 0 then 0 else l.tdiv r) := by unfold opI; rw [if_neg (by decide), if_neg (by decide), if_neg (by decide), if_pos rfl]
theorem op_6 : opI 6 l r = (if l < r then 1 else 0) := by unfold opI; rw [if_neg (by decide), if_neg (by decide), if_neg (by decide), if_neg (by decide), if_pos rfl]
theorem op_7 : opI 7 l r = (if r < l then 1 else 0) := by unfold opI; rw [if_neg (by decide), if_neg (by decide), if_neg (by decide), if_neg (by decide), if_neg (by decide), if_pos rfl]
theorem op_8 : opI 8 l r = (if l = r then 1 else 0) := by unfold opI; rw [if_neg (by decide), if_neg (by decide), if_neg (by decide), if_neg (by decide), if_neg (by decide), if_neg (by decide), if_pos rfl]
theorem op_9 : opI 9 l r = (if l = 0 ∧ r = 0 then 0 else 1) := by unfold opI; rw [if_neg (by decide), if_neg (by decide), if_neg (by decide), if_neg (by decide), if_neg (by decide), if_neg (by decide), if_neg (by decide), if_pos rfl]
theorem op_10 : opI 10 l r = (if l = 0 ∨ r = 0 then 0 else 1) := by unfold opI; rw [if_neg (by decide), if_neg (by decide), if_neg (by decide), if_neg (by decide), if_neg (by decide), if_neg (by decide), if_neg (by decide), if_neg (by decide)]
theorem mul_big (hl : sml l) (hr : sml r) : big (l * r) := by
  have h1 : l.natAbs ≤ 1000000000 := by have := hl.1; have := hl.2; omega
  have h2 : r.natAbs ≤ 1000000000 := by have := hr.1; have := hr.2; omega
  have h3 : l.natAbs * r.natAbs ≤ 1000000000 * 1000000000 := Nat.mul_le_mul h1 h2
  rw [← Int.natAbs_mul] at h3
  generalize l * r = x at h3
  exact ⟨by omega, by omega⟩
theorem div_sml (hl : sml l) : sml (l.tdiv r) := by
  have h1 : l.natAbs ≤ 1000000000 := by have := hl.1; have := hl.2; omega
  have h2 : (l.tdiv r).natAbs ≤ 1000000000 := by
    rw [Int.natAbs_tdiv]
    exact Nat.le_trans (Nat.div_le_self _ _) h1
  generalize l.tdiv r = x at h2
  exact ⟨by omega, by omega⟩
theorem iL_div (hl : sml l) (hr : sml r) : iL l / iL r = iL (l.tdiv r) := by
  rw [← Int64.toInt_inj, Int64.toInt_div_of_ne_left, iL_t hl.big, iL_t hr.big, iL_t (div_sml hl).big]
  intro h
  have h2 := congrArg Int64.toInt h
  rw [iL_t hl.big] at h2
  have h3 : Int64.minValue.toInt = -9223372036854775808 := by decide
  rw [h3] at h2
  have := hl.1
  omega
theorem op_num (hw : 2 ≤ w) (hw5 : w ≤ 5) (hl : sml l) (hr : sml r) : sml (opI w l r) := by
  have : w = 2 ∨ w = 3 ∨ w = 4 ∨ w = 5 := by omega
  rcases this with e | e | e | e <;> subst e
  · rw [op_2]; exact hl_sml
  · rw [op_3]; exact hl_sml
  · rw [op_4]; exact hl_sml
  · rw [op_5]
    by_cases z : r = 0
    · rw [if_pos z]; exact ⟨by decide, by decide⟩
    · rw [if_neg z]; exact div_sml hl
theorem bit01 {P : Prop} [Decidable P] : (if P then (1 : Int) else 0) = 0 ∨ (if P then (1 : Int) else 0) = 1 := by
  by_cases h : P
  · rw [if_pos h]; exact Or.inr rfl
  · rw [if_neg h]; exact Or.inl rfl
theorem bit10 {P : Prop} [Decidable P] : (if P then (0 : Int) else 1) = 0 ∨ (if P then (0 : Int) else 1) = 1 := by
  by_cases h : P
  · rw [if_pos h]; exact Or.inl rfl
  · rw [if_neg h]; exact Or.inr rfl
theorem op_bit (hw : 6 ≤ w) (hw5 : w ≤ 10) : opI w l r = 0 ∨ opI w l r = 1 := by
  have : w = 6 ∨ w = 7 ∨ w = 8 ∨ w = 9 ∨ w = 10 := by omega
  rcases this with e | e | e | e | e <;> subst e
  · rw [op_6]; exact bit01 (P := l < r)
  · rw [op_7]; exact bit01 (P := r < l)
  · rw [op_8]; exact bit01 (P := l = r)
  · rw [op_9]; exact bit10 (P := l = 0 ∧ r = 0)
  · rw [op_10]; exact bit10 (P := l = 0 ∨ r = 0)
theorem add_big (hl : sml l) (hr : sml r) : big (l + r) := ⟨by have := hl.1; have := hr.1; omega, by have := hl.2; have := hr.2; omega⟩
theorem sub_big (hl : sml l) (hr : sml r) : big (l - r) := ⟨by have := hl.1; have := hr.2; omega, by have := hl.2; have := hr.1; omega⟩
theorem c_join (hl : sml l) (hr : sml r) (hw : (w = 2 ∧ e = 43) ∨ (w = 3 ∧ e = 45) ∨ (w = 4 ∧ e = 42) ∨ (w = 5 ∧ e = 47) ∨ (w = 6 ∧ e = 60) ∨ (w = 7 ∧ e = 62) ∨ (w = 8 ∧ e = 61) ∨ (w = 9 ∧ e = 6) ∨ (w = 10 ∧ e = 7)) (hp : postI (iI (opI w l r)) M N) : w_X3_joined (nI e) (iI l).toInt64 (iI r).toInt64 M N postI := by
  unfold w_X3_joined
  rw [iI_l hl, iI_l hr]
  have ze : (0 : Int64) = iL 0 := by decide
  rw [ze, iL_eq hl.big b0, iL_eq hr.big b0, iL_le hl.big hr.big, iL_le hr.big hl.big, iL_eq hl.big hr.big, iL_add, iL_sub, iL_mul, iL_div hl hr]
  rcases hw with ⟨r1, r2⟩ | ⟨r1, r2⟩ | ⟨r1, r2⟩ | ⟨r1, r2⟩ | ⟨r1, r2⟩ | ⟨r1, r2⟩ | ⟨r1, r2⟩ | ⟨r1, r2⟩ | ⟨r1, r2⟩ <;> subst r1 <;> subst r2
  · exact ⟨fun z => absurd z (by decide), fun z => absurd z (by decide), fun _ => c_held (add_big hl hr) (by rw [← op_2]; exact hp), fun z => absurd z (by decide), fun z => absurd z (by decide), fun z => absurd z (by decide), fun z => absurd z (by decide), fun z => absurd z (by decide), fun _ _ z => absurd rfl z⟩
  · exact ⟨fun z => absurd z (by decide), fun z => absurd z (by decide), fun z => absurd z (by decide), fun _ => c_held (sub_big hl hr) (by rw [← op_3]; exact hp), fun z => absurd z (by decide), fun z => absurd z (by decide), fun z => absurd z (by decide), fun z => absurd z (by decide), fun _ _ _ z => absurd rfl z⟩
  · exact ⟨fun z => absurd z (by decide), fun _ => c_held (mul_big hl hr) (by rw [← op_4]; exact hp), fun z => absurd z (by decide), fun z => absurd z (by decide), fun z => absurd z (by decide), fun z => absurd z (by decide), fun z => absurd z (by decide), fun z => absurd z (by decide), fun _ z => absurd rfl z⟩
  · have hp' : postI (iI (if r = 0 then 0 else l.tdiv r)) M N := by rw [← op_5]; exact hp
    refine ⟨fun z => absurd z (by decide), fun z => absurd z (by decide), fun z => absurd z (by decide), fun z => absurd z (by decide), fun _ => ⟨fun z => ⟨z, c_held (div_sml hl).big ?_⟩, fun z => ?_⟩, fun z => absurd z (by decide), fun z => absurd z (by decide), fun z => absurd z (by decide), fun _ _ _ _ z => absurd rfl z⟩
    · rw [if_neg z] at hp'
      rw [hl_id (div_sml hl)]; exact hp'
    · rw [if_pos z] at hp'; exact hp'
  · have hp' : postI (iI (if l < r then 1 else 0)) M N := by rw [← op_6]; exact hp
    refine ⟨fun z => absurd z (by decide), fun z => absurd z (by decide), fun z => absurd z (by decide), fun z => absurd z (by decide), fun z => absurd z (by decide), fun _ => ⟨fun z => ?_, fun z => ?_⟩, fun z => absurd z (by decide), fun z => absurd z (by decide), fun _ _ _ _ _ z => absurd rfl z⟩
    · rw [if_neg (by omega)] at hp'; exact hp'
    · rw [if_pos (by omega)] at hp'; exact hp'
  · have hp' : postI (iI (if r < l then 1 else 0)) M N := by rw [← op_7]; exact hp
    refine ⟨fun z => absurd z (by decide), fun z => absurd z (by decide), fun z => absurd z (by decide), fun z => absurd z (by decide), fun z => absurd z (by decide), fun z => absurd z (by decide), fun z => absurd z (by decide), fun _ => ⟨fun z => ?_, fun z => ?_⟩, fun _ _ _ _ _ _ _ z => absurd rfl z⟩
    · rw [if_neg (by omega)] at hp'; exact hp'
    · rw [if_pos (by omega)] at hp'; exact hp'
  · have hp' : postI (iI (if l = r then 1 else 0)) M N := by rw [← op_8]; exact hp
    refine ⟨fun z => absurd z (by decide), fun z => absurd z (by decide), fun z => absurd z (by decide), fun z => absurd z (by decide), fun z => absurd z (by decide), fun z => absurd z (by decide), fun _ => ⟨fun z => ?_, fun z => ?_⟩, fun z => absurd z (by decide), fun _ _ _ _ _ _ z => absurd rfl z⟩
    · rw [if_neg z] at hp'; exact hp'
    · rw [if_pos z] at hp'; exact hp'
  · have hp' : postI (iI (if l = 0 ∧ r = 0 then 0 else 1)) M N := by rw [← op_9]; exact hp
    refine ⟨fun z => absurd z (by decide), fun z => absurd z (by decide), fun z => absurd z (by decide), fun z => absurd z (by decide), fun z => absurd z (by decide), fun z => absurd z (by decide), fun z => absurd z (by decide), fun z => absurd z (by decide), fun _ _ _ _ _ _ _ _ => ⟨fun z => ?_, fun z => ⟨fun z2 => ?_, fun z2 => ?_⟩⟩⟩
    · rw [if_neg (fun w => z w.1)] at hp'; exact hp'
    · rw [if_pos ⟨z, z2⟩] at hp'; exact hp'
    · rw [if_neg (fun w => z2 w.2)] at hp'; exact hp'
  · have hp' : postI (iI (if l = 0 ∨ r = 0 then 0 else 1)) M N := by rw [← op_10]; exact hp
    refine ⟨fun _ => ⟨fun z => ?_, fun z => ⟨fun z2 => ?_, fun z2 => ?_⟩⟩, fun z => absurd z (by decide), fun z => absurd z (by decide), fun z => absurd z (by decide), fun z => absurd z (by decide), fun z => absurd z (by decide), fun z => absurd z (by decide), fun z => absurd z (by decide), fun z => absurd rfl z⟩
    · rw [if_pos (Or.inl z)] at hp'; exact hp'
    · rw [if_pos (Or.inr z2)] at hp'; exact hp'
    · rw [if_neg (fun w => w.elim z z2)] at hp'; exact hp'
theorem r_bit0 (hp : postL 0 M N) : w_X12_bit 0 M N postL := ⟨fun _ => hp, fun z => absurd rfl z⟩
theorem r_bit1 (hp : postL 1 M N) : w_X12_bit 1 M N postL := ⟨fun z => absurd z (by decide), fun _ => hp⟩
theorem r_both (hl : sml l) (hr : sml r) (h2 : 2 ≤ w) (h10 : w ≤ 10) (hb : 9 ≤ w → (l = 0 ∨ l = 1) ∧ (r = 0 ∨ r = 1)) (hp : postL (iL (opI w l r)) M N) : w_X12_both (nI w) (iL l) (iL r) M N postL := by
  unfold w_X12_both
  have ze : (0 : Int64) = iL 0 := by decide
  have tw : (2 : Int64) = iL 2 := by decide
  rw [tw, ze, iL_eq hr.big b0, iL_le hl.big hr.big, iL_le hr.big hl.big, iL_eq hl.big hr.big, iL_add, iL_sub, iL_mul, iL_div hl hr, iL_le (add_big hl hr) b0, iL_eq (add_big hl hr) (⟨by decide, by decide⟩ : big 2), ← ze]
  have : w = 2 ∨ w = 3 ∨ w = 4 ∨ w = 5 ∨ w = 6 ∨ w = 7 ∨ w = 8 ∨ w = 9 ∨ w = 10 := by omega
  rcases this with r1 | r1 | r1 | r1 | r1 | r1 | r1 | r1 | r1 <;> subst r1
  · exact ⟨fun _ => r_held (add_big hl hr) (by rw [← op_2]; exact hp), fun z => absurd z (by decide), fun z => absurd z (by decide), fun z => absurd z (by decide), fun z => absurd z (by decide), fun z => absurd z (by decide), fun z => absurd z (by decide), fun z => absurd z (by decide), fun z => absurd rfl z⟩
  · exact ⟨fun z => absurd z (by decide), fun _ => r_held (sub_big hl hr) (by rw [← op_3]; exact hp), fun z => absurd z (by decide), fun z => absurd z (by decide), fun z => absurd z (by decide), fun z => absurd z (by decide), fun z => absurd z (by decide), fun z => absurd z (by decide), fun _ z => absurd rfl z⟩
  · exact ⟨fun z => absurd z (by decide), fun z => absurd z (by decide), fun _ => r_held (mul_big hl hr) (by rw [← op_4]; exact hp), fun z => absurd z (by decide), fun z => absurd z (by decide), fun z => absurd z (by decide), fun z => absurd z (by decide), fun z => absurd z (by decide), fun _ _ z => absurd rfl z⟩
  · have hp' : postL (iL (if r = 0 then 0 else l.tdiv r)) M N := by rw [← op_5]; exact hp
    refine ⟨fun z => absurd z (by decide), fun z => absurd z (by decide), fun z => absurd z (by decide), fun _ => ⟨fun z => ⟨z, ?_⟩, fun z => ?_⟩, fun z => absurd z (by decide), fun z => absurd z (by decide), fun z => absurd z (by decide), fun z => absurd z (by decide), fun _ _ _ z => absurd rfl z⟩
    · rw [if_neg z] at hp'; exact hp'
    · rw [if_pos z] at hp'; exact hp'
  · have hp' : postL (iL (if l < r then 1 else 0)) M N := by rw [← op_6]; exact hp
    refine ⟨fun z => absurd z (by decide), fun z => absurd z (by decide), fun z => absurd z (by decide), fun z => absurd z (by decide), fun _ => ⟨fun z => r_bit0 ?_, fun z => r_bit1 ?_⟩, fun z => absurd z (by decide), fun z => absurd z (by decide), fun z => absurd z (by decide), fun _ _ _ _ z => absurd rfl z⟩
    · rw [if_neg (by omega)] at hp'; exact hp'
    · rw [if_pos (by omega)] at hp'; exact hp'
  · have hp' : postL (iL (if r < l then 1 else 0)) M N := by rw [← op_7]; exact hp
    refine ⟨fun z => absurd z (by decide), fun z => absurd z (by decide), fun z => absurd z (by decide), fun z => absurd z (by decide), fun z => absurd z (by decide), fun _ => ⟨fun z => r_bit0 ?_, fun z => r_bit1 ?_⟩, fun z => absurd z (by decide), fun z => absurd z (by decide), fun _ _ _ _ _ z => absurd rfl z⟩
    · rw [if_neg (by omega)] at hp'; exact hp'
    · rw [if_pos (by omega)] at hp'; exact hp'
  · have hp' : postL (iL (if l = r then 1 else 0)) M N := by rw [← op_8]; exact hp
    refine ⟨fun z => absurd z (by decide), fun z => absurd z (by decide), fun z => absurd z (by decide), fun z => absurd z (by decide), fun z => absurd z (by decide), fun z => absurd z (by decide), fun _ => ⟨fun z => r_bit0 ?_, fun z => r_bit1 ?_⟩, fun z => absurd z (by decide), fun _ _ _ _ _ _ z => absurd rfl z⟩
    · rw [if_neg z] at hp'; exact hp'
    · rw [if_pos z] at hp'; exact hp'
  · have hp' : postL (iL (if l = 0 ∧ r = 0 then 0 else 1)) M N := by rw [← op_9]; exact hp
    obtain ⟨b1, b2⟩ := hb (by decide)
    refine ⟨fun z => absurd z (by decide), fun z => absurd z (by decide), fun z => absurd z (by decide), fun z => absurd z (by decide), fun z => absurd z (by decide), fun z => absurd z (by decide), fun z => absurd z (by decide), fun _ => ⟨fun z => r_bit0 ?_, fun z => r_bit1 ?_⟩, fun _ _ _ _ _ _ _ z => absurd rfl z⟩
    · rw [if_pos (by omega)] at hp'; exact hp'
    · rw [if_neg (by omega)] at hp'; exact hp'
  · have hp' : postL (iL (if l = 0 ∨ r = 0 then 0 else 1)) M N := by rw [← op_10]; exact hp
    obtain ⟨b1, b2⟩ := hb (by decide)
    refine ⟨fun z => absurd z (by decide), fun z => absurd z (by decide), fun z => absurd z (by decide), fun z => absurd z (by decide), fun z => absurd z (by decide), fun z => absurd z (by decide), fun z => absurd z (by decide), fun z => absurd z (by decide), fun _ _ _ _ _ _ _ _ => ⟨fun z => r_bit0 ?_, fun z => r_bit1 ?_⟩⟩
    · rw [if_pos (by omega)] at hp'; exact hp'
    · rw [if_neg (by omega)] at hp'; exact hp'
end NU
