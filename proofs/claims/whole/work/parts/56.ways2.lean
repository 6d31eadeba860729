/-! ===== what the class asks of a search, over the reference's field ===== -/
def besK (k : Nat) : Int32 := if k = 3 then 1 else 0
section WQ
variable {M : am_I} {N : am_N} {b : Nat} {bk : Bk} {cn full : Cn} {but : Nat → Nat → Prop} {f f' : Nat → Int32} {fe lo : Int64} {W q g w : Nat} {post : Int32 → am_I → am_N → Prop} {r : Int32} {v : Option (Nat × Nat × Nat)}
theorem srQ.at0 (Q : srQ bk f q (M (0, 0, 3)) (M (0, 0, 4))) (hg : g < 64) : wayAt M q (nI g) (wayG bk f q g 0) := by
  obtain ⟨R, key, fi, hE⟩ := Q
  have hS := srRow_of hE
  obtain ⟨⟨nd, d1, d2⟩, d3, d4⟩ := hE
  have hG : ∀ c, GoalN g 0 c ↔ c = g := fun c => by
    unfold GoalN
    rw [if_pos rfl]
    exact ⟨fun z => z.2, fun z => ⟨by omega, z⟩⟩
  by_cases hR : R g
  · obtain ⟨h1, h2⟩ := wayIs_C (G := GoalN g 0) d2 d1 (fun c hc => (d3 c hc).1) ((hG g).mpr rfl) hR (fun c hc _ => by rw [(hG c).mp hc]; omega) (fun c hc _ _ => by rw [(hG c).mp hc]; omega) (fun z => ((hG _).mp z).symm)
    have e : wayG bk f q g 0 = some (key g / 128, key g % 128, fi g) := wayF_eq h1
    rw [e]
    exact ⟨g, hg, rfl, ⟨R, key, fi, hS, hR, rfl, rfl, rfl⟩, h2, h1.2.1, (d3 g hR).2.1⟩
  · have e : wayG bk f q g 0 = none := wayF_eq (wayIs_C0 d2 (fun c hc z => hR (by rw [← (hG c).mp hc]; exact z)))
    rw [e]
    exact Or.inr ⟨g, hg, rfl, R, key, fi, hS, hR⟩
theorem srQ.at1 (Q : srQ bk f q (M (0, 0, 3)) (M (0, 0, 4))) (hq : q < 8) (hg : g < 64) (h : ∀ r, wayAt M q r (wayG bk f q g 1) → post r M N) : w_X5_nearestBeside (nI q) (nI g) M N post := by
  obtain ⟨R, key, fi, hE⟩ := Q
  have hS := srRow_of hE
  obtain ⟨⟨nd, d1, d2⟩, d3, d4⟩ := hE
  have hG : ∀ c, GoalN g 1 c ↔ ∃ k, k < 4 ∧ besN g k = some c := fun c => by
    unfold GoalN
    rw [if_neg (by decide)]
    constructor
    · rintro ⟨z1, z2⟩
      exact besN_sym c z1 g hg z2
    · rintro ⟨k, z1, z2⟩
      have hc := besN_lt g hg k z1 c z2
      exact ⟨hc, besN_sym g hg c hc ⟨k, z1, z2⟩⟩
  refine sp_X5_nearestBeside hS (fun c hc => (d3 c hc).1) hq hg (fun x hx hn => h _ ?_) (fun hn => h _ ?_)
  · obtain ⟨n1, n2, n3⟩ := hn
    have n4 : ∀ c, GoalN g 1 c → R c → key x < key c ∨ (key x = key c ∧ fi x ≤ fi c) := fun c hc hR => by
      obtain ⟨k, z1, z2⟩ := (hG c).mp hc
      exact n3 k c z1 z2 hR
    obtain ⟨h1, h2⟩ := wayIs_C (G := GoalN g 1) d2 d1 (fun c hc => (d3 c hc).1) ((hG x).mpr n1) n2 (fun c hc hR => by have := n4 c hc hR; omega) (fun c hc hR e => by have := n4 c hc hR; omega) (fun z => by
      have z1 := n4 _ z d2.1.1
      have z2 := d2.1.2.1
      obtain ⟨k, C, y1, y2, y3, y4⟩ := d2.2.2.1 x n2
      have hk : k = 0 := by omega
      subst hk
      exact y1.1.symm)
    have e : wayG bk f q g 1 = some (key x / 128, key x % 128, fi x) := wayF_eq h1
    rw [e]
    exact ⟨x, hx, rfl, ⟨R, key, fi, hS, n2, rfl, rfl, rfl⟩, h2, h1.2.1, (d3 x n2).2.1⟩
  · have e : wayG bk f q g 1 = none := wayF_eq (wayIs_C0 d2 (fun c hc z => by
      obtain ⟨k, z1, z2⟩ := (hG c).mp hc
      exact hn k c z1 z2 z))
    rw [e]
    exact Or.inl rfl
theorem c_hasWay (H : wayAt M q r v) (hq : q < 8) (h1 : ∀ C k x, v = some (C, k, x) → post 1 M N) (h0 : v = none → post 0 M N) : w_X5_hasWay (nI q) r M N post := by
  cases v with
  | none =>
    cases H with
    | inl e => rw [e]; exact sp_X5_hasWayN (h0 rfl) hq
    | inr e =>
      obtain ⟨c, hc, e1, R, key, fi, hS, hR⟩ := e
      rw [e1]
      exact sp_X5_hasWay hS hq hc (fun z => absurd z hR) (fun _ => h0 rfl)
  | some v =>
    obtain ⟨C, k, x⟩ := v
    obtain ⟨c, hc, e1, ⟨R, key, fi, hS, hR, -⟩, -⟩ := H
    rw [e1]
    exact sp_X5_hasWay hS hq hc (fun _ => h1 C k x rfl) (fun z => absurd hR z)
theorem c_costTo (H : wayAt M q r v) (hq : q < 8) (h1 : ∀ C k x, v = some (C, k, x) → C ≤ 639936 → post (nI C) M N) (h0 : v = none → post (-1) M N) : w_X5_costTo (nI q) r M N post := by
  cases v with
  | none =>
    cases H with
    | inl e => rw [e]; exact sp_X5_costToN (h0 rfl) hq
    | inr e =>
      obtain ⟨c, hc, e1, R, key, fi, hS, hR⟩ := e
      rw [e1]
      exact sp_X5_costTo hS hq hc (fun z => absurd z hR) (fun _ => h0 rfl)
  | some v =>
    obtain ⟨C, k, x⟩ := v
    obtain ⟨c, hc, e1, ⟨R, key, fi, hS, hR, e2, e3, e4⟩, hC, -⟩ := H
    rw [e1]
    exact sp_X5_costTo hS hq hc (fun _ => by rw [e2]; exact h1 C k x rfl hC) (fun z => absurd hR z)
theorem c_firstTo (H : wayAt M q r v) (hq : q < 8) (h1 : ∀ C k x, v = some (C, k, x) → x < 64 → post (nI x) M N) (h0 : v = none → post (-1) M N) : w_X5_firstTo (nI q) r M N post := by
  cases v with
  | none =>
    cases H with
    | inl e => rw [e]; exact sp_X5_firstToN (h0 rfl) hq
    | inr e =>
      obtain ⟨c, hc, e1, R, key, fi, hS, hR⟩ := e
      rw [e1]
      exact sp_X5_firstTo hS hq hc (fun z => absurd z hR) (fun _ => h0 rfl)
  | some v =>
    obtain ⟨C, k, x⟩ := v
    obtain ⟨c, hc, e1, ⟨R, key, fi, hS, hR, e2, e3, e4⟩, -, -, hx⟩ := H
    rw [e1]
    exact sp_X5_firstTo hS hq hc (fun _ => by rw [e4]; exact h1 C k x rfl hx) (fun z => absurd hR z)
theorem c_goalOf (S : StC b bk cn full but M N f fe lo) (hB : BkGood bk cn) (hw : w < cn.w) (hq : q < 8) (Q : srQ bk f q (M (0, 0, 3)) (M (0, 0, 4))) (h : ∀ r, wayAt M q r (wayG bk f q (bk.wC w) (besK (bk.wK w))) → post r M N) : w_X10_goalOf b (nI q) (nI w) M N post := by
  have hle := S.k.le.2.2.1
  have hk := (hB.w w hw).1
  have hc := (hB.w w hw).2.1
  unfold w_X10_goalOf
  refine sp_at (w := 3) (c := 1) S.k.t3 (by omega) (by omega) ?_
  refine sp_at (w := 3) (c := 0) S.k.t3 (by omega) (by omega) ?_
  rw [(S.k.w w hw).1, (S.k.w w hw).2.1]
  refine ⟨fun z => ?_, fun z => ?_⟩
  · have e : besK (bk.wK w) = 0 := if_neg (fun e => z (by rw [e]; rfl))
    rw [e] at h
    exact h _ (Q.at0 hc)
  · have e : besK (bk.wK w) = 1 := if_pos ((nI_eq (b := 3) (by omega) (by omega)).mp z)
    rw [e] at h
    exact Q.at1 hq hc (fun r hr => h r hr)
end WQ
