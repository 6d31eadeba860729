/-! ===== the class: Paths.goOnFrom ===== -/
section PR
variable {M : am_I} {N : am_N} {ok : Nat → Prop} {h : Nat → Nat} {s q : Nat} {post : am_I → am_N → Prop}
theorem nI_min {a b : Nat} (ha : a < 2 ^ 31) (hb : b < 2 ^ 31) : (if nI b < nI a then nI b else nI a) = nI (min a b) := by
  by_cases z : b < a
  · rw [if_pos ((nI_ltI hb ha).mpr z), Nat.min_eq_right (by omega)]
  · rw [if_neg (fun y => z ((nI_ltI hb ha).mp y)), Nat.min_eq_left (by omega)]
theorem cg_loop (hT : tolls M ok h) (hok : ∀ c, ok c → c < 64) (hq : q < 8) {p nd : Nat} (hp64 : p < 64) (hs64 : s < 64) {Dn : Nat → Prop} (hp : Dn p) (hnd : nd ≤ 64) :
    ∀ (j k : Nat), k + j = 4 → ∀ (R : Nat → Prop) (sd : Nat → Nat → Prop) (key fi : Nat → Nat) (ne : Nat) (el : Nat → Nat) (ky fy eg po : Nat → Int32), csS ok h s q nd R Dn sd key fi ne el ky fy eg po →
      (∀ x, Dn x → key x ≤ key p) → (∃ k C, wk nbr ok h k s p C ∧ key p = 128 * C + k ∧ k + 1 ≤ nd ∧ C ≤ 9999 * k) → (∀ i, i < k → ∀ c, besN p i = some c → ok c → sd p c) →
      (∀ (R' : Nat → Prop) (sd' : Nat → Nat → Prop) (key' fi' : Nat → Nat) (ne' : Nat) (el' : Nat → Nat) (ky' fy' eg' po' : Nat → Int32), csS ok h s q nd R' Dn sd' key' fi' ne' el' ky' fy' eg' po' → (∀ i, i < 4 → ∀ c, besN p i = some c → ok c → sd' p c) → (∀ a b, sd a b → sd' a b) → (∀ i, ¬ (64 * q ≤ i ∧ i < 64 * q + 64) → ky' i = ky i ∧ fy' i = fy i) → post (pS M ky' fy' eg' po') N) →
      ∃ n, w_X5_goOnFrom_p3 post n (nI (64 * q)) (nI p) (nI s) (nI k) (pS M ky fy eg po) N := by
  intro j
  induction j with
  | zero =>
    intro k hk R sd key fi ne el ky fy eg po S hmax hst hsd kk
    have e : k = 4 := by omega
    subst e
    refine ⟨1, ?_⟩
    rw [w_X5_goOnFrom_p3_s]
    unfold w_X5_goOnFrom_p3_b
    exact ⟨fun _ => kk R sd key fi ne el ky fy eg po S hsd (fun _ _ z => z) (fun _ _ => ⟨rfl, rfl⟩), fun z => absurd (Int32.le_refl _) z⟩
  | succ j ih =>
    intro k hk R sd key fi ne el ky fy eg po S hmax hst hsd kk
    have hk4 : k < 4 := by omega
    have next : ∀ (R' : Nat → Prop) (sd' : Nat → Nat → Prop) (key' fi' : Nat → Nat) (ne' : Nat) (el' : Nat → Nat) (ky' fy' eg' po' : Nat → Int32), csS ok h s q nd R' Dn sd' key' fi' ne' el' ky' fy' eg' po' → (∀ x, Dn x → key' x = key x) → (∀ c, besN p k = some c → ok c → sd' p c) → (∀ a b, sd a b → sd' a b) → (∀ i, ¬ (64 * q ≤ i ∧ i < 64 * q + 64) → ky' i = ky i ∧ fy' i = fy i) →
        ∃ n, w_X5_goOnFrom_p3 post n (nI (64 * q)) (nI p) (nI s) (nI (k + 1)) (pS M ky' fy' eg' po') N := by
      intro R' sd' key' fi' ne' el' ky' fy' eg' po' S' hDn hsk hsub hout
      refine ih (k + 1) (by omega) R' sd' key' fi' ne' el' ky' fy' eg' po' S' (fun x hx => by rw [hDn x hx, hDn p hp]; exact hmax x hx) (by rw [hDn p hp]; exact hst) (fun i hi c hc ho => ?_) ?_
      · by_cases e : i = k
        · subst e; exact hsk c hc ho
        · exact hsub _ _ (hsd i (by omega) c hc ho)
      · intro R2 sd2 key2 fi2 ne2 el2 ky2 fy2 eg2 po2 S2 hs2 hsub2 hout2
        exact kk R2 sd2 key2 fi2 ne2 el2 ky2 fy2 eg2 po2 S2 hs2 (fun a b z => hsub2 a b (hsub a b z)) (fun i hi => ⟨(hout2 i hi).1.trans (hout i hi).1, (hout2 i hi).2.trans (hout i hi).2⟩)
    have close : (∃ n, w_X5_goOnFrom_p3_b post (w_X5_goOnFrom_p3 post n) (nI (64 * q)) (nI p) (nI s) (nI k) (pS M ky fy eg po) N) → ∃ n, w_X5_goOnFrom_p3 post n (nI (64 * q)) (nI p) (nI s) (nI k) (pS M ky fy eg po) N := fun ⟨n, z⟩ => ⟨n + 1, z⟩
    apply close
    unfold w_X5_goOnFrom_p3_b
    simp only [eq_X11_besN hp64 hk4, nI_1]
    have g4 : ¬ (4 : Int32) ≤ nI k := nI_ge (b := 4) hk4 (by omega)
    cases hb : besN p k with
    | none =>
      obtain ⟨n, hn⟩ := next R sd key fi ne el ky fy eg po S (fun _ _ => rfl) (fun c hc => by rw [hb] at hc; cases hc) (fun _ _ z => z) (fun _ _ => ⟨rfl, rfl⟩)
      rw [besV_none hb]
      exact ⟨n, fun z => absurd z g4, fun _ => ⟨fun _ => hn, fun z => absurd (by decide) z⟩⟩
    | some c =>
      have hc64 : c < 64 := besN_lt p hp64 k hk4 c hb
      have hnb : nbr p c := ⟨hp64, hc64, k, hk4, hb⟩
      rw [besV_some hb]
      have hT5 : pS M ky fy eg po (0, 0, 5) = M (0, 0, 5) := pS_o (by decide)
      simp only [nI_clamp (show c < 2 ^ 31 by omega), hT5]
      by_cases hoc : ok c
      · obtain ⟨et, hhc⟩ := (hT c hc64).1 hoc
        obtain ⟨D, hR, hK, hpo, hel, hes, hin, hcn⟩ := id S
        have hRp := D.2.1 p hp
        obtain ⟨ekp, efp⟩ := (hK p hp64).1 hRp
        have sp := djk_small D hnd hRp
        have hpc : p ≠ c := by
          intro e
          subst e
          have := besN_val hb
          omega
        have hne64 : ne ≤ 64 := by have := cntR_le R 64; omega
        have ekey : ky (64 * q + p) + M (0, 0, 5) c = nI (key p + (128 * h c + 1)) := by rw [ekp, et, nI_add]
        -- the first cell
        have main : ∃ n, w_X5_goOnFrom_p71 post (w_X5_goOnFrom_p3 post n) (nI (64 * q)) (nI p) (nI s) (nI k) (nI c) (nI (key p + (128 * h c + 1))) (nI (if p = s then c else fi p)) (pS M ky fy eg po) N := by
          have hf64 : (if p = s then c else fi p) < 64 := by
            split
            · exact hc64
            · exact (hR p hRp).2
          unfold w_X5_goOnFrom_p71 w_X5_goOnFrom_p131
          simp only [pS_k, pS_f, pS_p, pS_e, pS_uk, pS_uf, pS_ue, pS_up, nI_add, nI_1, nI_clamp (show 64 * q + c < 2 ^ 31 by omega), eq_J9_min, hpo]
          have v1 : vp_in (nI (64 * q + c)) 512 := vp_in_nI (by omega) (by omega)
          have ndup : ∀ (ky' fy' : Nat → Int32), (∀ i, i ≠ 64 * q + c → ky' i = ky i ∧ fy' i = fy i) → (∀ i, ¬ (64 * q ≤ i ∧ i < 64 * q + 64) → ky' i = ky i ∧ fy' i = fy i) := fun ky' fy' z i hi => z i (by omega)
          by_cases hRc : R c
          · obtain ⟨ekc, efc⟩ := (hK c hc64).1 hRc
            have sc := djk_small D hnd hRc
            rw [ekc, efc]
            rcases Nat.lt_trichotomy (key p + (128 * h c + 1)) (key c) with hlt | heq | hgt
            · have hDc : ¬ Dn c := fun z => absurd (hmax c z) (by omega)
              have D' := djk_less (key' := fun x => if x = c then key p + (128 * h c + 1) else key x) (fi' := fun x => if x = c then (if p = s then c else fi p) else fi x) D hp hmax hnb hoc hhc hst hRc hlt (by simp) (fun x hx => by simp [hx]) (by simp) (fun x hx => by simp [hx])
              obtain ⟨n, hn⟩ := next R _ _ _ ne el (upd ky (64 * q + c) (nI (key p + (128 * h c + 1)))) (upd fy (64 * q + c) (nI (if p = s then c else fi p))) eg po ⟨D', fun x hx => ⟨(hR x hx).1, by
                  by_cases e : x = c
                  · subst e; simp only [if_pos]; exact hf64
                  · simp only [if_neg e]; exact (hR x hx).2⟩, fun x hx => ⟨fun hRx => by
                  by_cases e : x = c
                  · subst e; rw [pk_us, pk_us]; simp
                  · rw [pk_un (by omega), pk_un (by omega)]; simp only [if_neg e]; exact (hK x hx).1 hRx, fun hRx => by
                  rw [pk_un (by intro z; exact hRx (by have : x = c := by omega
                                                       exact this ▸ hRc))]
                  exact (hK x hx).2 hRx⟩, hpo, hel, hes, hin, hcn⟩ (fun x hx => by
                  have : x ≠ c := fun e => hDc (e ▸ hx)
                  simp [this]) (fun c' hc' _ => by rw [hb] at hc'; cases hc'; exact Or.inr ⟨rfl, rfl⟩) (fun _ _ z => Or.inl z) (ndup _ _ (fun i hi => ⟨pk_un hi, pk_un hi⟩))
              refine ⟨n, v1, fun z => absurd ((nI_leI (by omega) (by omega)).mp z) (by omega), fun _ => ⟨v1, fun _ => ⟨v1, v1, hn⟩, fun z => ?_⟩⟩
              have := (nI_eq (b := 2000000000) (by omega) (by omega)).mp z
              omega
            · have hDc : ¬ Dn c := fun z => absurd (hmax c z) (by omega)
              have D' := djk_like (fi' := fun x => if x = c then min (fi c) (if p = s then c else fi p) else fi x) D hp hmax hnb hoc hhc hst hRc heq (by simp) (fun x hx => by simp [hx])
              have hm64 : min (fi c) (if p = s then c else fi p) < 64 := Nat.lt_of_le_of_lt (Nat.min_le_right _ _) hf64
              obtain ⟨n, hn⟩ := next R _ key _ ne el ky (upd fy (64 * q + c) (nI (min (fi c) (if p = s then c else fi p)))) eg po ⟨D', fun x hx => ⟨(hR x hx).1, by
                  by_cases e : x = c
                  · subst e; simp only [if_pos]; exact hm64
                  · simp only [if_neg e]; exact (hR x hx).2⟩, fun x hx => ⟨fun hRx => by
                  refine ⟨((hK x hx).1 hRx).1, ?_⟩
                  by_cases e : x = c
                  · subst e; rw [pk_us]; simp
                  · rw [pk_un (by omega)]; simp only [if_neg e]; exact ((hK x hx).1 hRx).2, fun hRx => (hK x hx).2 hRx⟩, hpo, hel, hes, hin, hcn⟩ (fun x hx => rfl) (fun c' hc' _ => by rw [hb] at hc'; cases hc'; exact Or.inr ⟨rfl, rfl⟩) (fun _ _ z => Or.inl z) (ndup _ _ (fun i hi => ⟨rfl, pk_un hi⟩))
              refine ⟨n, v1, fun _ => ⟨v1, fun z => absurd (by rw [heq]) z, fun _ => ⟨v1, v1, ?_⟩⟩, fun z => absurd (nI_le (by omega) (by omega)) z⟩
              rw [nI_min (by have := (hR c hRc).2; omega) (by omega)]
              exact hn
            · have D' := djk_more D hp hmax hnb hoc hhc hst hRc hgt
              obtain ⟨n, hn⟩ := next R _ key fi ne el ky fy eg po ⟨D', hR, hK, hpo, hel, hes, hin, hcn⟩ (fun x hx => rfl) (fun c' hc' _ => by rw [hb] at hc'; cases hc'; exact Or.inr ⟨rfl, rfl⟩) (fun _ _ z => Or.inl z) (fun _ _ => ⟨rfl, rfl⟩)
              exact ⟨n, v1, fun _ => ⟨v1, fun _ => hn, fun z => absurd ((nI_eq (by omega) (by omega)).mp z) (by omega)⟩, fun z => absurd (nI_le (by omega) (by omega)) z⟩
          · have ekc := (hK c hc64).2 hRc
            rw [ekc]
            have D' := djk_new (key' := fun x => if x = c then key p + (128 * h c + 1) else key x) (fi' := fun x => if x = c then (if p = s then c else fi p) else fi x) D hp hmax hnb hoc hhc hst hRc (by simp) (fun x hx => by simp [hx]) (by simp) (fun x hx => by simp [hx])
            have hadd := cntR_add hRc (show c < 64 from hc64)
            have hle64 := cntR_le (fun x => R x ∨ x = c) 64
            have hne63 : ne < 64 := by omega
            have hxc : ∀ x, R x → x ≠ c := fun x hx e => hRc (e ▸ hx)
            have S' : csS ok h s q nd (fun x => R x ∨ x = c) Dn (fun a b => sd a b ∨ (a = p ∧ b = c)) (fun x => if x = c then key p + (128 * h c + 1) else key x) (fun x => if x = c then (if p = s then c else fi p) else fi x) (ne + 1) (fun i => if i = ne then c else el i) (upd ky (64 * q + c) (nI (key p + (128 * h c + 1)))) (upd fy (64 * q + c) (nI (if p = s then c else fi p))) (upd eg ne (nI c)) (upd po 4 (nI (ne + 1))) := by
              refine ⟨D', fun x hx => ?_, fun x hx => ⟨fun hRx => ?_, fun hRx => ?_⟩, pk_us, fun i hi => ?_, fun x hx hn => ?_, fun i hi j hj e => ?_, by omega⟩
              · by_cases e : x = c
                · subst e; simp only [if_pos]; exact ⟨hc64, hf64⟩
                · simp only [if_neg e]; exact hR x (hx.elim id (fun y => absurd y e))
              · by_cases e : x = c
                · subst e; rw [pk_us, pk_us]; simp
                · rw [pk_un (by omega), pk_un (by omega)]; simp only [if_neg e]; exact (hK x hx).1 (hRx.elim id (fun y => absurd y e))
              · have e : x ≠ c := fun e => hRx (Or.inr e)
                rw [pk_un (by omega)]
                exact (hK x hx).2 (fun y => hRx (Or.inl y))
              · by_cases e : i = ne
                · subst e
                  simp only [if_pos]
                  rw [pk_us]
                  exact ⟨rfl, Or.inr trivial, fun z => hRc (D.2.1 c z)⟩
                · simp only [if_neg e]
                  rw [pk_un e]
                  obtain ⟨r1, r2, r3⟩ := hel i (by omega)
                  exact ⟨r1, Or.inl r2, r3⟩
              · by_cases e : x = c
                · subst e; exact ⟨ne, by omega, by simp⟩
                · obtain ⟨i, hi, ei⟩ := hes x (hx.elim id (fun y => absurd y e)) hn
                  exact ⟨i, by omega, by simp [show i ≠ ne by omega, ei]⟩
              · by_cases e1 : i = ne
                · by_cases e2 : j = ne
                  · omega
                  · simp only [e1, if_true, if_neg e2] at e
                    exact absurd e.symm (hxc _ (hel j (by omega)).2.1)
                · by_cases e2 : j = ne
                  · simp only [if_neg e1, e2, if_true] at e
                    exact absurd e (hxc _ (hel i (by omega)).2.1)
                  · simp only [if_neg e1, if_neg e2] at e
                    exact hin i (by omega) j (by omega) e
            obtain ⟨n, hn⟩ := next _ _ _ _ _ _ _ _ _ _ S' (fun x hx => by
                have : x ≠ c := hxc x (D.2.1 x hx)
                simp [this]) (fun c' hc' _ => by rw [hb] at hc'; cases hc'; exact Or.inr ⟨rfl, rfl⟩) (fun _ _ z => Or.inl z) (ndup _ _ (fun i hi => ⟨pk_un hi, pk_un hi⟩))
            refine ⟨n, v1, fun z => absurd ((nI_leI (by unfold NOWAY; omega) (by omega)).mp z) (by unfold NOWAY; omega), fun _ => ⟨v1, fun z => absurd rfl z, fun _ => ⟨fun z => absurd z (nI_ge (b := 64) hne63 (by omega)), fun _ => ⟨vp_in_nI hne63 (by omega), v1, v1, ?_⟩⟩⟩⟩
            rw [nI_clamp (by omega)]
            exact hn
        obtain ⟨n, hn⟩ := main
        refine ⟨n, fun z => absurd z g4, fun _ => ⟨fun z => absurd z (nI_pos (by omega)), fun _ => ⟨vp_in_nI hc64 (by omega), fun _ => ⟨?_, vp_in_nI hc64 (by omega), fun v hv => ?_⟩, fun z => ?_⟩⟩⟩
        · rw [nI_add]; exact vp_in_nI (by omega) (by omega)
        · rw [nI_add, nI_clamp (show 64 * q + p < 2 ^ 31 by omega), pS_k, ekey] at hv
          rw [nI_add, nI_clamp (show 64 * q + p < 2 ^ 31 by omega), pS_f, efp]
          subst hv
          refine ⟨fun z => ⟨vp_in_nI (by omega) (by omega), ?_⟩, fun z => ?_⟩
          · have e : p ≠ s := fun e => z (by rw [e])
            rw [if_neg e] at hn
            exact hn
          · have e : p = s := (nI_eq (by omega) (by omega)).mp z
            rw [if_pos e] at hn
            exact hn
        · rw [et] at z
          exact absurd ((nI_eq (b := 0) (by omega) (by omega)).mp z) (by omega)
      · obtain ⟨n, hn⟩ := next R sd key fi ne el ky fy eg po S (fun _ _ => rfl) (fun c' hc' ho => by rw [hb] at hc'; cases hc'; exact absurd ho hoc) (fun _ _ z => z) (fun _ _ => ⟨rfl, rfl⟩)
        exact ⟨n, fun z => absurd z g4, fun _ => ⟨fun z => absurd z (nI_pos (by omega)), fun _ => ⟨vp_in_nI hc64 (by omega), fun z => absurd ((hT c hc64).2 hoc) z, fun _ => hn⟩⟩⟩
end PR
