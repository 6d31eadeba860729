/-! ===== what the written-out methods use ===== -/
def am_pi (post : Int32 → am_I → am_N → Prop) : Option am_V → am_I → am_N → Prop := fun v M N => ∃ r, v = some (.inl r) ∧ post r M N
def am_pl (post : Int64 → am_I → am_N → Prop) : Option am_V → am_I → am_N → Prop := fun v M N => ∃ r, v = some (.inr (.inl r)) ∧ post r M N
def am_pv (post : am_I → am_N → Prop) : Option am_V → am_I → am_N → Prop := fun v M N => v = none ∧ post M N
def am_d0 (dm : List am_C) : Prop := ∀ i, i < 17 → (0, 0, i) ∈ dm
def am_d1 (dm : List am_C) (b : Nat) : Prop := ∀ i, i < 23 → (1, b, i) ∈ dm
def am_d2 (dm : List am_C) : Prop := ∀ t, t < 7 → ∀ i, i < 2 → (2, t, i) ∈ dm
def am_d3 (dm : List am_C) : Prop := ∀ i, i < 45 → (3, 0, i) ∈ dm
def am_fill {α : Type} (M : am_C → Nat → α) (a : am_C) (n : Nat) (v : α) : am_C → Nat → α := am_s M a (fun j => if j < n then v else M a j)
theorem am_mem_all {big ws : List Cond} (ps : List Nat) (hp : ws = ps.filterMap (fun i => big[i]?)) (h : ws.all goodWord = true) : ∀ w ∈ ws, w ∈ big.filter goodWord := by
  intro w hw
  have h1 := List.all_eq_true.mp h w hw
  rw [hp] at hw
  obtain ⟨i, -, hi⟩ := List.mem_filterMap.mp hw
  exact List.mem_filter.mpr ⟨List.mem_of_getElem? hi, h1⟩
theorem am_sw0 {x : Int32} {n : Nat} (h : ∀ k, k < n + 1 → ¬ x = nI k) : x.toInt < 0 ∨ ((n : Nat) : Int) < x.toInt := by
  by_cases h0 : x.toInt < 0
  · exact Or.inl h0
  · refine Or.inr ?_
    have hx : x = nI x.toInt.toNat := by
      have h1 : x.toInt = ((x.toInt.toNat : Nat) : Int) := by omega
      have h2 : x.toInt.toNat < 2 ^ 31 := by have := x.toInt_lt; omega
      apply Int32.toInt_inj.mp
      rw [nI_toInt h2]
      exact h1
    rcases Nat.lt_or_ge x.toInt.toNat (n + 1) with h3 | h3
    · exact absurd hx (h _ h3)
    · omega
theorem am_sw2 {x : Int32} {n : Nat} (h : ∀ k, k < n + 1 → ¬ x = nI (k + 2)) : x.toInt < 2 ∨ ((n + 2 : Nat) : Int) < x.toInt := by
  by_cases h0 : x.toInt < 2
  · exact Or.inl h0
  · refine Or.inr ?_
    have h2 : x.toInt.toNat < 2 ^ 31 := by have := x.toInt_lt; omega
    have hx : x = nI (x.toInt.toNat - 2 + 2) := by
      have h1 : x.toInt = ((x.toInt.toNat - 2 + 2 : Nat) : Int) := by omega
      apply Int32.toInt_inj.mp
      rw [nI_toInt (by omega)]
      exact h1
    rcases Nat.lt_or_ge (x.toInt.toNat - 2) (n + 1) with h3 | h3
    · exact absurd hx (h _ h3)
    · omega
section JS
variable {d : Nat} {μ : am_Y} {dm : List am_C} {pc : Nat} {lv : List (Nat × am_V)} {st : List am_V} {M : am_I} {N : am_N} {post : Option am_V → am_I → am_N → Prop}
theorem j_mono {d' : Nat} (hd : d ≤ d') (kk : jg d μ dm pc lv st M N post) : jg d' μ dm pc lv st M N post :=
  fun D q cA A p l e R s m args below meth c Q H locs cells slots ls hX hr ha hl => kk D q cA A p l e R s m args below meth c Q H locs cells slots ls ⟨hX.1, hX.2.1, hX.2.2.1, hX.2.2.2.1, hX.2.2.2.2.1, hX.2.2.2.2.2.1, hX.2.2.2.2.2.2.1, Nat.le_trans hd hX.2.2.2.2.2.2.2.1, Nat.le_trans (Nat.mul_le_mul_left 60 hd) hX.2.2.2.2.2.2.2.2.1, hX.2.2.2.2.2.2.2.2.2⟩ hr ha hl
theorem j_topi {x : Int32} (kk : ∀ y : Int32, y = x → jg d μ dm pc lv (.inl y :: st) M N post) : jg d μ dm pc lv (.inl x :: st) M N post := kk x rfl
theorem j_topl {x : Int64} (kk : ∀ y : Int64, y = x → jg d μ dm pc lv (.inr (.inl y) :: st) M N post) : jg d μ dm pc lv (.inr (.inl x) :: st) M N post := kk x rfl
theorem j_tabK {dflt lo hi : Int} {offs : Array Int} {len : Nat} {x k : Int32} {off : Int} {tgt : Nat} (hd : decode μ.2.1 pc = .ok (.tableswitch dflt lo hi offs, len)) (hx : x = k) (h1 : ¬ k.toInt < lo) (h2 : ¬ hi < k.toInt) (ho : offs[(k.toInt - lo).toNat]? = some off) (ht : (pc : Int) + off = (tgt : Int)) (kk : jg d μ dm tgt lv st M N post) : jg d μ dm pc lv (.inl x :: st) M N post := by
  subst hx
  exact j_tableIn hd h1 h2 ho ht kk
theorem j_copy {idx n0 n1 : Nat} {a0 a1 : am_C} {sp dp n : Int32} (hd : decode μ.2.1 pc = .ok (.invokestatic idx, 3)) (hlink : Cond.methodLink μ.1.cls idx arraycopyName ∈ am_tb ∧ Cond.native arraycopyName ∈ am_tb ∧ Cond.static arraycopyName ∈ am_tb ∧ Cond.initialized "java/lang/System" ∈ am_tb) (hc0 : a0 ∈ dm) (hc1 : a1 ∈ dm) (hly0 : am_ly a0 = (0, n0)) (hly1 : am_ly a1 = (0, n1))
    (h1 : ¬ sp < 0) (h2 : ¬ dp < 0) (h3 : ¬ n < 0) (h4 : sp.toNatClampNeg + n.toNatClampNeg ≤ n0) (h5 : dp.toNatClampNeg + n.toNatClampNeg ≤ n1) (hst : am_sz st ≤ 8) (hdd : 1 ≤ d)
    (kk : jg d μ dm (pc + 3) lv st (am_s M a1 (va_cpy (M a0) (M a1) sp.toNatClampNeg dp.toNatClampNeg n.toNatClampNeg)) N post) : jg d μ dm pc lv (.inl n :: .inl dp :: .inr (.inr a1) :: .inl sp :: .inr (.inr a0) :: st) M N post := by
  intro D q cA A p l e R s m args below meth c Q H locs cells slots ls hX hr ha hl
  obtain ⟨hx, hb, hml, hown, hts, hK, hA, hf, hlo, hce, hslo, hsk⟩ := id hX
  obtain ⟨k0, g0⟩ := List.getElem?_of_mem hc0
  obtain ⟨k1, g1⟩ := List.getElem?_of_mem hc1
  have e0 := am_w_at (q := q) (cA := cA) (M := M) (N := N) g0
  have e1 := am_w_at (q := q) (cA := cA) (M := M) (N := N) g1
  rw [am_e_i hly0] at e0
  rw [am_e_i hly1] at e1
  refine va_copyi hx hb (hml.trans hl.1.symm) hown (hts _ hlink.1) (hts _ hlink.2.1) (hts _ hlink.2.2.1) (hts _ hlink.2.2.2) hK ha.1 ha.2.1 ha.2.2 k0 k1 0 0 e0 e1 (ty := .int) rfl rfl rfl h1 h2 h3 h4 h5 (fun _ _ => rfl) (by omega) ?_ hd (fun H1 locs1 f1 f2 f3 => ?_)
  · rw [am_cats]
    have e9 : nativeFrameWords "java/lang/System" "arraycopy" 5 = 7 := by decide
    rw [e9]
    omega
  · have hset : (am_w q cA dm M N).set k1 (q a1, .inl (cA 0, n1, .inl (va_cpy (M a0) (M a1) sp.toNatClampNeg dp.toNatClampNeg n.toNatClampNeg))) = am_w q cA dm (am_s M a1 (va_cpy (M a0) (M a1) sp.toNatClampNeg dp.toNatClampNeg n.toNatClampNeg)) N := by
      have e2 : am_e q cA (am_s M a1 (va_cpy (M a0) (M a1) sp.toNatClampNeg dp.toNatClampNeg n.toNatClampNeg)) N a1 = .inl (cA 0, n1, .inl (va_cpy (M a0) (M a1) sp.toNatClampNeg dp.toNatClampNeg n.toNatClampNeg)) := by rw [am_e_i hly1]; simp only [am_s_same]
      rw [← e2]
      exact am_w_set ha.2.1 g1 (fun c' h => am_s_other M _ h) (fun c' h => rfl)
    rw [hset] at f1 f2
    exact kk D q cA A p l e R s m args below meth c Q H1 locs1 cells slots ls hX hr ⟨f1, f2, f3⟩ hl
end JS
