/-! ===== the pure layer: small methods ===== -/
def am_b (p : Prop) [Decidable p] : Int32 := if p then 1 else 0
theorem am_b0 (p : Prop) [Decidable p] : (am_b p = 0) ↔ ¬ p := by
  by_cases h : p <;> simp [am_b, h]
theorem am_b1 (p : Prop) [Decidable p] : (am_b p = 1) ↔ p := by
  by_cases h : p <;> simp [am_b, h]
theorem am_b01 (p : Prop) [Decidable p] : (am_b p = 0 ∨ am_b p = 1) ↔ True := by
  by_cases h : p <;> simp [am_b, h]
theorem am_bt {p : Prop} [Decidable p] (h : p) : am_b p = 1 := by simp [am_b, h]
theorem am_bf {p : Prop} [Decidable p] (h : ¬ p) : am_b p = 0 := by simp [am_b, h]
theorem am_u_eq (M : am_I) (c : am_C) (k : Nat) (x : Int32) (c' : am_C) (j : Nat) : am_u M c k x c' j = if c' = c then (if j = k then x else M c j) else M c' j := by
  unfold am_u am_s upd
  by_cases h : c' = c <;> simp [h]
theorem am_ul_eq (M : am_N) (c : am_C) (k : Nat) (x : Int64) (c' : am_C) (j : Nat) : am_ul M c k x c' j = if c' = c then (if j = k then x else M c j) else M c' j := by
  unfold am_ul am_s vp_updL
  by_cases h : c' = c <;> simp [h]
theorem am_s_eq {α : Type} (M : am_C → Nat → α) (c : am_C) (f : Nat → α) (c' : am_C) (j : Nat) : am_s M c f c' j = if c' = c then f j else M c' j := by
  unfold am_s
  by_cases h : c' = c <;> simp [h]
theorem am_u_o (M : am_I) {c c' : am_C} (k : Nat) (x : Int32) (h : c' ≠ c) : am_u M c k x c' = M c' := am_s_other M _ h
theorem am_u_c (M : am_I) (c : am_C) (k : Nat) (x : Int32) : am_u M c k x c = upd (M c) k x := am_s_same M c _
theorem am_ul_o (M : am_N) {c c' : am_C} (k : Nat) (x : Int64) (h : c' ≠ c) : am_ul M c k x c' = M c' := am_s_other M _ h
theorem am_ul_c (M : am_N) (c : am_C) (k : Nat) (x : Int64) : am_ul M c k x c = vp_updL (M c) k x := am_s_same M c _
section PB
variable {M : am_I} {N : am_N} {a1 a2 a3 a4 : Int32} {x1 x2 : Int64} {post : Int32 → am_I → am_N → Prop} {postL : Int64 → am_I → am_N → Prop}
theorem i32_nlt {x y : Int32} : (¬ x < y) ↔ y ≤ x := Int32.not_lt
theorem eq_X11_within : w_X11_within a1 a2 a3 M N post ↔ post (am_b (a2 ≤ a1 ∧ a1 ≤ a3)) M N := by
  unfold w_X11_within
  by_cases h1 : a1 < a2
  · have h3 : ¬ (a2 ≤ a1 ∧ a1 ≤ a3) := fun h => absurd h1 (i32_nlt.mpr h.1)
    simp [h1, am_bf h3]
  · by_cases h2 : a3 < a1
    · have h3 : ¬ (a2 ≤ a1 ∧ a1 ≤ a3) := fun h => absurd h2 (i32_nlt.mpr h.2)
      simp [h1, h2, am_bf h3]
    · simp [h1, h2, am_bt (show a2 ≤ a1 ∧ a1 ≤ a3 from ⟨i32_nlt.mp h1, i32_nlt.mp h2⟩)]
theorem eq_X12_isIn : w_X12_isIn a1 a2 a3 M N post ↔ post (am_b (a2 ≤ a1 ∧ a1 ≤ a3)) M N := eq_X11_within
theorem eq_X12_isCell : w_X12_isCell a1 M N post ↔ post (am_b (0 ≤ a1 ∧ a1 ≤ 63)) M N := by
  unfold w_X12_isCell
  rw [eq_X12_isIn]
  simp [am_b01]
theorem am_le63 {x : Int32} : (¬ 64 ≤ x) ↔ x ≤ 63 := by
  rw [Int32.le_iff_toInt_le, Int32.le_iff_toInt_le]
  have e1 : (64 : Int32).toInt = 64 := by decide
  have e2 : (63 : Int32).toInt = 63 := by decide
  rw [e1, e2]
  omega
theorem eq_X11_isCell : w_X11_isCell a1 M N post ↔ post (am_b (0 ≤ a1 ∧ a1 ≤ 63)) M N := by
  unfold w_X11_isCell
  by_cases h1 : a1 < 0
  · have h3 : ¬ (0 ≤ a1 ∧ a1 ≤ 63) := fun h => absurd h1 (i32_nlt.mpr h.1)
    simp [h1, am_bf h3]
  · by_cases h2 : 64 ≤ a1
    · have h3 : ¬ (0 ≤ a1 ∧ a1 ≤ 63) := fun h => absurd h2 (am_le63.mpr h.2)
      simp [h1, h2, am_bf h3]
    · simp [h1, h2, am_bt (show 0 ≤ a1 ∧ a1 ≤ 63 from ⟨i32_nlt.mp h1, am_le63.mp h2⟩)]
theorem eq_X11_isOdds : w_X11_isOdds a1 M N post ↔ post (am_b (1 ≤ a1 ∧ a1 ≤ 99)) M N := by
  unfold w_X11_isOdds
  rw [eq_X11_within]
  simp [am_b01]
theorem eq_X11_areMarks : w_X11_areMarks a1 M N post ↔ post (am_b (0 ≤ a1 ∧ a1 ≤ 15)) M N := by
  unfold w_X11_areMarks
  rw [eq_X11_within]
  simp [am_b01]
def am_set (a v : Int32) : Prop := if a = 0 ∨ a = 1 then 1 ≤ v ∧ v ≤ 9999 else if a = 2 then 0 ≤ v ∧ v ≤ 100 else if a = 3 then 0 ≤ v ∧ v ≤ 14 else False
theorem am_set_dec (a v : Int32) : am_set a v ∨ ¬ am_set a v := Classical.em _
noncomputable def am_setB (a v : Int32) : Int32 := @ite Int32 (am_set a v) (Classical.propDecidable _) 1 0
theorem am_setB0 (a v : Int32) : (am_setB a v = 0) ↔ ¬ am_set a v := by
  unfold am_setB
  split <;> rename_i h <;> simp [h]
theorem am_setB_key {a v : Int32} {p : Prop} [Decidable p] (hp : am_set a v ↔ p) : am_setB a v = am_b p := by
  unfold am_setB am_b
  by_cases h1 : p
  · simp [h1, hp.mpr h1]
  · have h2 : ¬ am_set a v := fun z => h1 (hp.mp z)
    simp [h1, h2]
theorem eq_X11_isSetting (h : post (am_setB a1 a2) M N) : w_X11_isSetting a1 a2 M N post := by
  unfold w_X11_isSetting
  simp only [eq_X11_within, am_b01, true_and]
  refine ⟨fun e => ?_, fun e => ?_, fun e => ?_, fun e => ?_, fun e0 e1 e2 e3 => ?_⟩
  · rw [← am_setB_key (a := a1) (v := a2) (by simp [am_set, e])]; exact h
  · rw [← am_setB_key (a := a1) (v := a2) (by simp [am_set, e])]; exact h
  · rw [← am_setB_key (a := a1) (v := a2) (by simp [am_set, e])]; exact h
  · rw [← am_setB_key (a := a1) (v := a2) (by simp [am_set, e])]; exact h
  · have : am_setB a1 a2 = 0 := (am_setB0 a1 a2).mpr (by simp [am_set, e0, e1, e2, e3])
    rw [this] at h
    exact h
theorem am_b_ite {p : Prop} [Decidable p] {A B : Prop} (h0 : ¬ p → A) (h1 : p → B) : ((am_b p = 0 → A) ∧ (¬ am_b p = 0 → B)) := ⟨fun h => h0 ((am_b0 p).mp h), fun h => h1 (Classical.byContradiction fun z => h ((am_b0 p).mpr z))⟩
theorem eq_X12_isSet (h : post (am_setB a1 a2) M N) : w_X12_isSet a1 a2 M N post := by
  unfold w_X12_isSet w_X12_isSet_p9
  simp only [eq_X12_isIn, am_b01, true_and]
  refine ⟨fun e => ?_, fun e0 => ⟨fun e1 => ⟨fun e2 => ⟨fun e3 => ?_, fun e => ?_⟩, fun e => ?_⟩, fun e => ?_⟩⟩
  · rw [← am_setB_key (a := a1) (v := a2) (by simp [am_set, e])]; exact h
  · have : am_setB a1 a2 = 0 := (am_setB0 a1 a2).mpr (by simp [am_set, e0, e1, e2, e3])
    rw [this] at h
    exact h
  · rw [am_setB_key (p := 0 ≤ a2 ∧ a2 ≤ 14) (by simp [am_set, e])] at h
    refine am_b_ite (fun h1 => ?_) (fun h1 => ?_)
    · rw [am_bf h1] at h; exact h
    · rw [am_bt h1] at h; exact h
  · rw [← am_setB_key (a := a1) (v := a2) (by simp [am_set, e])]; exact h
  · rw [← am_setB_key (a := a1) (v := a2) (by simp [am_set, e])]; exact h
theorem eq_J9_abs : w_J9_abs_0f7a4 a1 M N post ↔ post (if 0 ≤ a1 then a1 else -a1) M N := by
  unfold w_J9_abs_0f7a4
  by_cases h : 0 ≤ a1 <;> simp [h]
theorem eq_J9_min : w_J9_min_7cf53 a1 a2 M N post ↔ post (if a2 < a1 then a2 else a1) M N := by
  unfold w_J9_min_7cf53
  by_cases h : a2 < a1 <;> simp [h]
theorem eq_J9_max : w_J9_max_7cf53 a1 a2 M N post ↔ post (if a1 < a2 then a2 else a1) M N := by
  unfold w_J9_max_7cf53
  by_cases h : a1 < a2 <;> simp [h]
theorem eq_J9_maxl : w_J9_max_f86c9 x1 x2 M N postL ↔ postL (if x1 < x2 then x2 else x1) M N := by
  unfold w_J9_max_f86c9
  by_cases h : x1 < x2 <;> simp [h]
theorem eq_J9_minl : w_J9_min_f86c9 x1 x2 M N postL ↔ postL (if x2 < x1 then x2 else x1) M N := by
  unfold w_J9_min_f86c9
  by_cases h : x2 < x1 <;> simp [h]
def am_far (a b : Int32) : Int32 := (if 0 ≤ am_rem a 8 - am_rem b 8 then am_rem a 8 - am_rem b 8 else -(am_rem a 8 - am_rem b 8)) + (if 0 ≤ a / 8 - b / 8 then a / 8 - b / 8 else -(a / 8 - b / 8))
theorem eq_X11_far : w_X11_far a1 a2 M N post ↔ post (am_far a1 a2) M N := by
  unfold w_X11_far
  simp only [eq_J9_abs]
  rfl
theorem eq_X12_far : w_X12_far a1 a2 M N post ↔ post (am_far a1 a2) M N := eq_X11_far
def am_bit (a : Int32) : Int64 := (1 : Int64) <<< (a.toInt64 &&& 63)
theorem eq_X11_bit : w_X11_bit a1 M N postL ↔ postL (am_bit a1) M N := Iff.rfl
def am_bes (a k : Int32) : Int32 := if k = 0 then (if a < 8 then -1 else a - 8) else if k = 1 then (if am_rem a 8 ≤ 0 then -1 else a - 1) else if k = 2 then (if 7 ≤ am_rem a 8 then -1 else a + 1) else (if 56 ≤ a then -1 else a + 8)
theorem eq_X12_beside : w_X12_beside a1 a2 M N post ↔ post (am_bes a1 a2) M N := by
  unfold w_X12_beside am_bes
  by_cases h0 : a2 = 0
  · subst h0; by_cases h : a1 < 8 <;> simp [h]
  · by_cases h1 : a2 = 1
    · subst h1; by_cases h : am_rem a1 8 ≤ 0 <;> simp [h]
    · by_cases h2 : a2 = 2
      · subst h2; by_cases h : 7 ≤ am_rem a1 8 <;> simp [h]
      · by_cases h : 56 ≤ a1 <;> simp [h0, h1, h2, h]
end PB
