/-! ===== the log, and playing it ===== -/
def bndB (cn : Cn) (t : Nat) : Nat := if t ≤ 2 then cn.r else if t ≤ 7 then cn.c else if t ≤ 10 then cn.w else if t = 11 then cn.l else cn.k
/-- the book as far as cn -/
def cut (bk : Bk) (cn : Cn) : Bk := fun t i => if i < bndB cn t then bk t i else 0
theorem cut_in {bk : Bk} {cn : Cn} {t i : Nat} (h : i < bndB cn t) : cut bk cn t i = bk t i := if_pos h
theorem cut_cg {bk bk' : Bk} {cn : Cn} (h : ∀ t i, i < bndB cn t → bk' t i = bk t i) : cut bk' cn = cut bk cn := by
  funext t i
  unfold cut
  by_cases e : i < bndB cn t
  · rw [if_pos e, if_pos e, h t i e]
  · rw [if_neg e, if_neg e]
section CU
variable {M : am_I} {bk : Bk} {cn full : Cn}
theorem CnLe.rf : CnLe cn cn := ⟨Nat.le_refl _, Nat.le_refl _, Nat.le_refl _, Nat.le_refl _, Nat.le_refl _⟩
theorem CnLe.tr {a b c : Cn} (h1 : CnLe a b) (h2 : CnLe b c) : CnLe a c := ⟨Nat.le_trans h1.1 h2.1, Nat.le_trans h1.2.1 h2.2.1, Nat.le_trans h1.2.2.1 h2.2.2.1, Nat.le_trans h1.2.2.2.1 h2.2.2.2.1, Nat.le_trans h1.2.2.2.2 h2.2.2.2.2⟩
theorem BkM.cut (h : BkM M bk full) (hl : CnLe cn full) : BkM M (cut bk cn) cn := by
  obtain ⟨l1, l2, l3, l4, l5⟩ := hl
  refine ⟨fun r hr => ?_, fun r hr => ?_, fun r hr => ?_, fun r hr => ?_, fun r hr => ⟨?_, fun m hm => ?_⟩⟩
  · have := h.r r (by omega)
    unfold Bk.rF Bk.rT Bk.rM at *
    rw [cut_in (t := 0) hr, cut_in (t := 1) hr, cut_in (t := 2) hr]
    exact this
  · have := h.c r (by omega)
    unfold Bk.cK Bk.cW Bk.cS Bk.cH Bk.cU at *
    rw [cut_in (t := 3) hr, cut_in (t := 4) hr, cut_in (t := 5) hr, cut_in (t := 6) hr, cut_in (t := 7) hr]
    exact this
  · have := h.w r (by omega)
    unfold Bk.wK Bk.wC Bk.wM at *
    rw [cut_in (t := 8) hr, cut_in (t := 9) hr, cut_in (t := 10) hr]
    exact this
  · have := h.l r (by omega)
    unfold Bk.lo at *
    rw [cut_in (t := 11) hr]
    exact this
  · have := (h.k r (by omega)).1
    unfold Bk.pr at *
    rw [cut_in (t := 12) hr]
    exact this
  · have := (h.k r (by omega)).2 m hm
    unfold Bk.od at *
    rw [cut_in (t := 13 + m) (by
      unfold bndB
      rw [if_neg (by omega), if_neg (by omega), if_neg (by omega), if_neg (by omega)]
      exact hr)]
    exact this
theorem BkC.cut (h : BkC M bk full full) (hl : CnLe cn full) : BkC M (cut bk cn) cn full := by
  obtain ⟨l1, l2, l3, l4, l5⟩ := hl
  refine ⟨⟨l1, l2, l3, l4, l5⟩, h.t1, h.t2, h.t3, h.t4, h.t5, fun r hr => ?_, fun r hr => ?_, fun r hr => ?_, fun r hr => ?_, fun r hr => ⟨?_, fun m hm => ?_⟩⟩
  · have := h.r r (by omega)
    unfold Bk.rF Bk.rT Bk.rM at *
    rw [cut_in (t := 0) hr, cut_in (t := 1) hr, cut_in (t := 2) hr]
    exact this
  · have := h.c r (by omega)
    unfold Bk.cK Bk.cW Bk.cS Bk.cH Bk.cU at *
    rw [cut_in (t := 3) hr, cut_in (t := 4) hr, cut_in (t := 5) hr, cut_in (t := 6) hr, cut_in (t := 7) hr]
    exact this
  · have := h.w r (by omega)
    unfold Bk.wK Bk.wC Bk.wM at *
    rw [cut_in (t := 8) hr, cut_in (t := 9) hr, cut_in (t := 10) hr]
    exact this
  · have := h.l r (by omega)
    unfold Bk.lo at *
    rw [cut_in (t := 11) hr]
    exact this
  · have := (h.k r (by omega)).1
    unfold Bk.pr at *
    rw [cut_in (t := 12) hr]
    exact this
  · have := (h.k r (by omega)).2 m hm
    unfold Bk.od at *
    rw [cut_in (t := 13 + m) (by
      unfold bndB
      rw [if_neg (by omega), if_neg (by omega), if_neg (by omega), if_neg (by omega)]
      exact hr)]
    exact this
theorem BkGood.cut (h : BkGood bk full) (hl : CnLe cn full) : BkGood (cut bk cn) cn := by
  obtain ⟨l1, l2, l3, l4, l5⟩ := hl
  refine ⟨fun r hr => ?_, fun r hr => ?_, fun r hr => ?_, fun r hr => ?_, fun r hr => ⟨?_, fun m hm => ?_⟩⟩
  · have := h.rM r (by omega)
    unfold Bk.rF Bk.rT Bk.rM at *
    rw [cut_in (t := 0) hr, cut_in (t := 1) hr, cut_in (t := 2) hr]
    exact this
  · have := h.c r (by omega)
    unfold Bk.cK Bk.cW Bk.cS Bk.cH Bk.cU at *
    rw [cut_in (t := 3) hr, cut_in (t := 4) hr, cut_in (t := 5) hr, cut_in (t := 6) hr, cut_in (t := 7) hr]
    exact this
  · have := h.w r (by omega)
    unfold Bk.wK Bk.wC Bk.wM at *
    rw [cut_in (t := 8) hr, cut_in (t := 9) hr, cut_in (t := 10) hr]
    exact this
  · have := h.l r (by omega)
    unfold Bk.lo at *
    rw [cut_in (t := 11) hr]
    exact this
  · have := (h.k r (by omega)).1
    unfold Bk.pr at *
    rw [cut_in (t := 12) hr]
    exact this
  · have := (h.k r (by omega)).2 m hm
    unfold Bk.od at *
    rw [cut_in (t := 13 + m) (by
      unfold bndB
      rw [if_neg (by omega), if_neg (by omega), if_neg (by omega), if_neg (by omega)]
      exact hr)]
    exact this
end CU
def Lg : Type := Nat → Nat → Nat
def cnL (lg : Lg) : Nat → Cn
  | 0 => (0, 0, 0, 0, 0)
  | n + 1 => cnAdd (cnL lg n) (lg n 1)
theorem cnAdd_le (cn : Cn) (wh : Nat) : CnLe cn (cnAdd cn wh) := by
  unfold CnLe
  rw [cnAdd_r, cnAdd_c, cnAdd_w, cnAdd_l, cnAdd_k]
  exact ⟨Nat.le_add_right _ _, Nat.le_add_right _ _, Nat.le_add_right _ _, Nat.le_add_right _ _, Nat.le_add_right _ _⟩
theorem cnL_le {lg : Lg} {m : Nat} : ∀ j, CnLe (cnL lg m) (cnL lg (m + j))
  | 0 => CnLe.rf
  | j + 1 => (cnL_le j).tr (cnAdd_le _ _)
theorem cnL_le' {lg : Lg} {m n : Nat} (h : m ≤ n) : CnLe (cnL lg m) (cnL lg n) := by
  have := cnL_le (lg := lg) (m := m) (n - m)
  rw [show m + (n - m) = n by omega] at this
  exact this
theorem cnL_cg {lg lg' : Lg} : ∀ n, (∀ i, i < n → lg' i 1 = lg i 1) → cnL lg' n = cnL lg n
  | 0, _ => rfl
  | n + 1, h => by
    show cnAdd (cnL lg' n) (lg' n 1) = cnAdd (cnL lg n) (lg n 1)
    rw [cnL_cg n (fun i hi => h i (by omega)), h n (by omega)]
def LgOK (lg : Lg) (n : Nat) : Prop := (∀ i, i < n → RowOK (cnL lg i) (lg i 1) (lg i 2) (lg i 3) (lg i 4)) ∧ (∀ i j, i ≤ j → j < n → lg i 0 ≤ lg j 0)
theorem LgOK.row {lg : Lg} {n : Nat} (h : LgOK lg n) : ∀ i, i < n → RowOK (cnL lg i) (lg i 1) (lg i 2) (lg i 3) (lg i 4) := h.1
theorem LgOK.mono {lg : Lg} {n : Nat} (h : LgOK lg n) : ∀ i j, i ≤ j → j < n → lg i 0 ≤ lg j 0 := h.2
theorem LgOK.cb {lg : Lg} {n : Nat} (h : LgOK lg n) : ∀ m, m ≤ n → CnB (cnL lg m)
  | 0, _ => ⟨Nat.zero_le _, Nat.zero_le _, Nat.zero_le _, Nat.zero_le _, Nat.zero_le _⟩
  | m + 1, hm => (h.cb m (by omega)).add (h.row m (by omega))
/-- the rain r was told by a row -/
theorem cnL_rain {lg : Lg} {h r : Nat} : ∀ n, h ≤ n → (cnL lg h).r ≤ r → r < (cnL lg n).r → ∃ i, h ≤ i ∧ i < n ∧ lg i 1 = 2 ∧ (cnL lg i).r = r
  | 0, h0, h1, h2 => by
    have : h = 0 := by omega
    subst this
    omega
  | n + 1, h0, h1, h2 => by
    by_cases e : h = n + 1
    · subst e; omega
    · by_cases e2 : r < (cnL lg n).r
      · obtain ⟨i, q1, q2, q3⟩ := cnL_rain n (by omega) h1 e2
        exact ⟨i, q1, by omega, q3⟩
      · have h3 : (cnL lg (n + 1)).r = (cnL lg n).r + (if lg n 1 = 2 then 1 else 0) := rfl
        by_cases e3 : lg n 1 = 2
        · rw [if_pos e3] at h3
          exact ⟨n, by omega, by omega, e3, by omega⟩
        · rw [if_neg e3] at h3
          omega
def St3 : Type := (Nat → Int32) × Int64 × Int64
def begF : Nat → Int32 := fun i => if 576 ≤ i ∧ i < 640 then 1 else if i = 1626 then 500 else if i = 1627 then 200 else if i = 1628 then 30 else if i = 1629 then 3 else 0
def begS : St3 := (begF, 0, 0)
noncomputable def doRow (bk : Bk) (but : Nat → Nat → Prop) (lg : Lg) (i : Nat) (s : St3) : St3 := (doesF (cut bk (cnL lg (i + 1))) but (cnL lg i) (lg i 1) (lg i 2) (lg i 3) (lg i 4) s.1, s.2)
noncomputable def doHour (bk : Bk) (but : Nat → Nat → Prop) (lg : Lg) (n : Nat) (s : St3) : St3 := (hourF (cut bk (cnL lg n)) but (cnL lg n) s.1, hourE (cut bk (cnL lg n)) but (cnL lg n) s.1 s.2.1, hourL (cut bk (cnL lg n)) but (cnL lg n) s.1 s.2.2)
noncomputable def hears (bk : Bk) (but : Nat → Nat → Prop) (lg : Lg) (m : Nat) : Nat → St3 → St3
  | 0, s => s
  | j + 1, s => doRow bk but lg (m + j) (hears bk but lg m j s)
def upH (lg : Lg) (h : Nat) : Nat → Nat
  | 0 => 0
  | n + 1 => if lg n 0 ≤ h then n + 1 else upH lg h n
theorem upH_le {lg : Lg} {h : Nat} : ∀ n, upH lg h n ≤ n
  | 0 => Nat.le_refl _
  | n + 1 => by
    unfold upH
    by_cases e : lg n 0 ≤ h
    · rw [if_pos e]; exact Nat.le_refl _
    · rw [if_neg e]; exact Nat.le_trans (upH_le n) (Nat.le_succ _)
theorem upH_all {lg : Lg} {h : Nat} : ∀ n, (∀ i, i < n → lg i 0 ≤ h) → upH lg h n = n
  | 0, _ => rfl
  | n + 1, hh => by
    unfold upH
    rw [if_pos (hh n (by omega))]
theorem upH_in {lg : Lg} {h : Nat} : ∀ n, (∀ i j, i ≤ j → j < n → lg i 0 ≤ lg j 0) → ∀ i, i < upH lg h n → lg i 0 ≤ h
  | 0, _, i, hi => by
    unfold upH at hi
    omega
  | n + 1, hm, i, hi => by
    unfold upH at hi
    by_cases e : lg n 0 ≤ h
    · rw [if_pos e] at hi
      have := hm i n (by omega) (by omega)
      omega
    · rw [if_neg e] at hi
      exact upH_in n (fun i j h1 h2 => hm i j h1 (by omega)) i hi
theorem upH_cg {lg lg' : Lg} {h : Nat} : ∀ n, (∀ i, i < n → lg' i 0 = lg i 0) → upH lg' h n = upH lg h n
  | 0, _ => rfl
  | n + 1, hh => by
    unfold upH
    rw [hh n (by omega), upH_cg n (fun i hi => hh i (by omega))]
noncomputable def rep (bk : Bk) (but : Nat → Nat → Prop) (lg : Lg) : Nat → Nat → St3
  | 0, n => hears bk but lg 0 n begS
  | h + 1, n => hears bk but lg (upH lg h n) (n - upH lg h n) (doHour bk but lg (upH lg h n) (rep bk but lg h (upH lg h n)))
section RP1
variable {bk bk' : Bk} {but : Nat → Nat → Prop} {lg lg' : Lg} {N n h : Nat} {s : St3}
theorem rep_row (e : lg n 0 = h) : rep bk but lg h (n + 1) = doRow bk but lg n (rep bk but lg h n) := by
  cases h with
  | zero =>
    show hears bk but lg 0 (n + 1) begS = _
    show doRow bk but lg (0 + n) (hears bk but lg 0 n begS) = doRow bk but lg n (hears bk but lg 0 n begS)
    rw [Nat.zero_add]
  | succ h =>
    have e1 : upH lg h (n + 1) = upH lg h n := by
      conv => lhs; unfold upH
      rw [if_neg (by omega)]
    have hl := upH_le (lg := lg) (h := h) n
    show hears bk but lg (upH lg h (n + 1)) (n + 1 - upH lg h (n + 1)) _ = doRow bk but lg n (hears bk but lg (upH lg h n) (n - upH lg h n) _)
    rw [e1, show n + 1 - upH lg h n = (n - upH lg h n) + 1 by omega]
    show doRow bk but lg (upH lg h n + (n - upH lg h n)) _ = _
    rw [show upH lg h n + (n - upH lg h n) = n by omega]
theorem rep_hour (e : ∀ i, i < n → lg i 0 ≤ h) : rep bk but lg (h + 1) n = doHour bk but lg n (rep bk but lg h n) := by
  show hears bk but lg (upH lg h n) (n - upH lg h n) _ = _
  rw [upH_all n e, Nat.sub_self]
  rfl
/-- a state in order -/
def RS1 (but : Nat → Nat → Prop) (lg : Lg) (n h : Nat) (f : Nat → Int32) : Prop := GoodF (999 * n + 190080 * h) (cnL lg n) f ∧ BO (cnL lg n) but f ∧ (∀ i, 1635 ≤ i → f i = 0) ∧ f 1624 = nI h
theorem RS1.row (hL : LgOK lg N) (hB : BkGood bk (cnL lg N)) (hn : n < N) (hN : N ≤ 400) (hh : h ≤ 719) (S : RS1 but lg n h s.1) : RS1 but lg (n + 1) h (doRow bk but lg n s).1 := by
  obtain ⟨g1, g2, g3, g4⟩ := S
  have hr := hL.row n hn
  have ht := TE.does (bk := cut bk (cnL lg (n + 1))) (but := but) (f := s.1) g1.b hr
  refine ⟨?_, does_BO g1 hr g2, fun i hi => ?_, ?_⟩
  · have := does_good (but := but) g1 hr (hB.cut (cnL_le' (by omega : n + 1 ≤ N))) (by omega)
    have e : 999 * n + 190080 * h + 999 = 999 * (n + 1) + 190080 * h := by omega
    rw [e] at this
    exact this
  · exact (ht i (Or.inl hi)).trans (g3 i hi)
  · exact (ht 1624 (Or.inr rfl)).trans g4
theorem RS1.hour (hL : LgOK lg N) (hB : BkGood bk (cnL lg N)) (hn : n ≤ N) (hN : N ≤ 400) (hh : h + 1 ≤ 719) (S : RS1 but lg n h s.1) : RS1 but lg n (h + 1) (doHour bk but lg n s).1 := by
  obtain ⟨g1, g2, g3, g4⟩ := S
  have hB' := hB.cut (cnL_le' hn)
  obtain ⟨k1, k2⟩ := hourF_good g1 hB' g2 (by omega)
  have ht := TE.hour g1 hB' g2 (by omega)
  refine ⟨?_, k2, fun i hi => ?_, ?_⟩
  · have e : 999 * n + 190080 * h + 190080 = 999 * n + 190080 * (h + 1) := by omega
    rw [e] at k1
    exact k1
  · refine (ht i (Or.inl hi)).trans ?_
    unfold nowF
    rw [pk_un (by omega)]
    exact g3 i hi
  · refine (ht 1624 (Or.inr rfl)).trans ?_
    unfold nowF
    rw [pk_us, g4, nI_1]
theorem begF_at {i : Nat} (h1 : ¬ (576 ≤ i ∧ i < 640)) (h2 : ¬ (1626 ≤ i ∧ i < 1630)) : begF i = 0 := by
  unfold begF
  rw [if_neg h1, if_neg (by omega), if_neg (by omega), if_neg (by omega), if_neg (by omega)]
theorem sumN_0 : ∀ n, sumN (fun _ => 0) n = 0
  | 0 => rfl
  | n + 1 => by
    show sumN (fun _ => 0) n + 0 = 0
    rw [sumN_0 n]
theorem RS1.beg : RS1 but lg 0 0 begF := by
  have c0 : (cnL lg 0).c = 0 := rfl
  refine ⟨⟨⟨Nat.zero_le _, Nat.zero_le _, Nat.zero_le _, Nat.zero_le _, Nat.zero_le _⟩, by decide, ⟨⟨fun _ => 0, fun c hc => ?_, ?_⟩, fun c hc => ?_, ?_⟩, ⟨fun c hc => ?_, fun c hc => ?_, fun c hc k hk _ => ?_, ?_⟩, ⟨fun q hq => ?_, fun q hq => ?_, fun q hq => ?_, fun q hq => ?_, fun q hq c hc => ?_, fun q hq _ => ?_⟩, ⟨?_, ?_, ?_, ?_, ?_⟩⟩, fun q hq => ?_, fun i hi => ?_, ?_⟩
  · rw [begF_at (by omega) (by omega)]; rfl
  · rw [sumN_0]; exact Nat.zero_le _
  · exact ⟨0, by omega, by rw [begF_at (by omega) (by omega)]; rfl⟩
  · exact ⟨500, by omega, rfl⟩
  · left; rw [begF_at (by omega) (by omega)]
  · left; rw [begF_at (by omega) (by omega)]
  · rw [begF_at (by omega) (by omega)]
  · exact ⟨0, by rw [begF_at (by omega) (by omega)]; rfl, Or.inr rfl⟩
  · rw [c0] at hq; omega
  · rw [c0] at hq; omega
  · rw [c0] at hq; omega
  · rw [c0] at hq; omega
  · left; rw [begF_at (by omega) (by omega)]
  · exact ⟨begF_at (by omega) (by omega), fun c hc => begF_at (by omega) (by omega)⟩
  · rfl
  · rfl
  · rfl
  · rfl
  · rfl
  · rw [c0] at hq; omega
  · exact begF_at (by omega) (by omega)
  · rfl
theorem hears_good (hL : LgOK lg N) (hB : BkGood bk (cnL lg N)) (hN : N ≤ 400) (hh : h ≤ 719) {m : Nat} (S : RS1 but lg m h s.1) : ∀ j, m + j ≤ N → RS1 but lg (m + j) h (hears bk but lg m j s).1
  | 0, _ => S
  | j + 1, hj => RS1.row (n := m + j) hL hB (by omega) hN hh (hears_good hL hB hN hh S j (by omega))
theorem rep_good (hL : LgOK lg N) (hB : BkGood bk (cnL lg N)) (hN : N ≤ 400) : ∀ h n, h ≤ 719 → n ≤ N → RS1 but lg n h (rep bk but lg h n).1
  | 0, n, hh, hn => by
    have := hears_good (bk := bk) (h := 0) (s := begS) hL hB hN (by omega) (m := 0) (RS1.beg (but := but)) n (by omega)
    rw [Nat.zero_add] at this
    exact this
  | h + 1, n, hh, hn => by
    have hl := upH_le (lg := lg) (h := h) n
    have ih := rep_good hL hB hN h (upH lg h n) (by omega) (by omega)
    have := hears_good hL hB hN hh (RS1.hour hL hB (by omega) hN hh ih) (n - upH lg h n) (by omega)
    rw [show upH lg h n + (n - upH lg h n) = n by omega] at this
    exact this
/-- what lies behind does not matter -/
theorem hears_cg {m : Nat} : ∀ j, (∀ i, i < m + j → ∀ k, lg' i k = lg i k) → (∀ t i, i < bndB (cnL lg (m + j)) t → bk' t i = bk t i) → hears bk' but lg' m j s = hears bk but lg m j s
  | 0, _, _ => rfl
  | j + 1, h1, h2 => by
    have hle := cnL_le (lg := lg) (m := m + j) 1
    have hb : ∀ t i, i < bndB (cnL lg (m + j)) t → bk' t i = bk t i := fun t i hi => h2 t i (by
      rw [← Nat.add_assoc]
      have : bndB (cnL lg (m + j)) t ≤ bndB (cnL lg (m + j + 1)) t := by
        obtain ⟨l1, l2, l3, l4, l5⟩ := hle
        unfold bndB
        by_cases e1 : t ≤ 2
        · rw [if_pos e1, if_pos e1]; exact l1
        · rw [if_neg e1, if_neg e1]
          by_cases e2 : t ≤ 7
          · rw [if_pos e2, if_pos e2]; exact l2
          · rw [if_neg e2, if_neg e2]
            by_cases e3 : t ≤ 10
            · rw [if_pos e3, if_pos e3]; exact l3
            · rw [if_neg e3, if_neg e3]
              by_cases e4 : t = 11
              · rw [if_pos e4, if_pos e4]; exact l4
              · rw [if_neg e4, if_neg e4]; exact l5
      omega)
    have ih := hears_cg j (fun i hi => h1 i (by omega)) hb
    show doRow bk' but lg' (m + j) (hears bk' but lg' m j s) = doRow bk but lg (m + j) (hears bk but lg m j s)
    rw [ih]
    unfold doRow
    rw [cnL_cg (m + j + 1) (fun i hi => h1 i (by omega) 1), cnL_cg (m + j) (fun i hi => h1 i (by omega) 1), cut_cg (cn := cnL lg (m + j + 1)) (fun t i hi => h2 t i (by rw [← Nat.add_assoc]; exact hi)), h1 (m + j) (by omega) 1, h1 (m + j) (by omega) 2, h1 (m + j) (by omega) 3, h1 (m + j) (by omega) 4]
theorem bndB_le {a b : Cn} (h : CnLe a b) (t : Nat) : bndB a t ≤ bndB b t := by
  obtain ⟨l1, l2, l3, l4, l5⟩ := h
  unfold bndB
  by_cases e1 : t ≤ 2
  · rw [if_pos e1, if_pos e1]; exact l1
  · rw [if_neg e1, if_neg e1]
    by_cases e2 : t ≤ 7
    · rw [if_pos e2, if_pos e2]; exact l2
    · rw [if_neg e2, if_neg e2]
      by_cases e3 : t ≤ 10
      · rw [if_pos e3, if_pos e3]; exact l3
      · rw [if_neg e3, if_neg e3]
        by_cases e4 : t = 11
        · rw [if_pos e4, if_pos e4]; exact l4
        · rw [if_neg e4, if_neg e4]; exact l5
theorem rep_cg : ∀ h n, (∀ i, i < n → ∀ k, lg' i k = lg i k) → (∀ t i, i < bndB (cnL lg n) t → bk' t i = bk t i) → rep bk' but lg' h n = rep bk but lg h n
  | 0, n, h1, h2 => hears_cg n (fun i hi => h1 i (by omega)) (by rw [Nat.zero_add]; exact h2)
  | h + 1, n, h1, h2 => by
    have hl := upH_le (lg := lg) (h := h) n
    have hb : ∀ t i, i < bndB (cnL lg (upH lg h n)) t → bk' t i = bk t i := fun t i hi => h2 t i (by
      have := bndB_le (cnL_le' (lg := lg) hl) t
      omega)
    have ih := rep_cg h (upH lg h n) (fun i hi => h1 i (by omega)) hb
    show hears bk' but lg' (upH lg' h n) (n - upH lg' h n) (doHour bk' but lg' (upH lg' h n) (rep bk' but lg' h (upH lg' h n))) = hears bk but lg (upH lg h n) (n - upH lg h n) (doHour bk but lg (upH lg h n) (rep bk but lg h (upH lg h n)))
    rw [upH_cg n (fun i hi => h1 i hi 0), ih]
    have e3 : ∀ s, doHour bk' but lg' (upH lg h n) s = doHour bk but lg (upH lg h n) s := fun s => by
      unfold doHour
      rw [cnL_cg (upH lg h n) (fun i hi => h1 i (by omega) 1), cut_cg hb]
    rw [e3]
    exact hears_cg _ (fun i hi => h1 i (by omega)) (by rw [show upH lg h n + (n - upH lg h n) = n by omega]; exact h2)
end RP1
