/-! ===== a plant is seen: the reference ===== -/
section SM
variable {M : am_I} {N : am_N} {post : am_I → am_N → Prop}
def oddsM (M : am_I) (k m : Nat) : Int32 := M (3, 0, 21) (4 * k + m)
theorem sp_X12_seen {c : Nat} (hc : c < 64) (hst : ¬ M (3, 0, 1) (192 + c) = 0) {marks : Int32}
    (h : ∀ wv : Nat → Int64, post (am_s M (3, 0, 1) (if 0 < psum (oddsM M) marks (fun k => M (3, 0, 1) (640 + 5 * c + k)) 5 then put5 (upd (M (3, 0, 1)) (384 + c) (M (3, 0, 1) (384 + c) + 1)) (640 + 5 * c) (newS (oddsM M) marks (fun k => M (3, 0, 1) (640 + 5 * c + k)) 5) else upd (M (3, 0, 1)) (384 + c) (M (3, 0, 1) (384 + c) + 1))) (am_s N (3, 0, 23) wv)) : w_X12_seen (nI c) marks M N post := by
  unfold w_X12_seen
  rw [ix192, ix384, nI_clamp (show 192 + c < 2 ^ 31 by omega), nI_clamp (show 384 + c < 2 ^ 31 by omega)]
  refine ⟨vp_in_nI (by omega) (by omega), fun _ => ⟨vp_in_nI (by omega) (by omega), vp_in_nI (by omega) (by omega), ?_⟩, fun z => absurd z hst⟩
  generalize hf : upd (M (3, 0, 1)) (384 + c) (M (3, 0, 1) (384 + c) + 1) = f0 at h
  generalize hsh : (fun k => M (3, 0, 1) (640 + 5 * c + k)) = sh at h
  generalize hodM : oddsM M = od at h
  have e0 : am_u M (3, 0, 1) (384 + c) (M (3, 0, 1) (384 + c) + 1) = am_s M (3, 0, 1) f0 := by unfold am_u; rw [hf]
  rw [e0]
  have shk : ∀ k, f0 (640 + 5 * c + k) = sh k := fun k => by rw [← hsh, ← hf, pk_un (by omega)]
  have odk : ∀ (g : Nat → Int32) k m, am_s M (3, 0, 1) g (3, 0, 21) (4 * k + m) = od k m := fun g k m => by rw [am_s_other _ _ (by decide), ← hodM]; rfl
  have ix : ∀ k, (640 : Int32) + 5 * nI c + nI k = nI (640 + 5 * c + k) := fun k => by rw [xm5, ix640, nI_add]
  have fin : ∀ (wv : Nat → Int64), (∀ k, k < 5 → wv k = partS od marks sh k) → w_X12_seen_p156 post 6 (nI c) (psum od marks sh 5) 0 (am_s M (3, 0, 1) f0) (am_s N (3, 0, 23) wv) := by
    intro wv hwv
    by_cases hpos : 0 < psum od marks sh 5
    · have hne : ¬ psum od marks sh 5 = 0 := fun e => by rw [e] at hpos; exact absurd hpos (by decide)
      have hle : ¬ psum od marks sh 5 ≤ 0 := Int64.not_le.mpr hpos
      rw [if_pos hpos] at h
      have fl : ∀ k, k ≤ 5 → foldS (fun k (s : am_I) => am_u s (3, 0, 1) (640 + 5 * c + k) (partS od marks sh k * 1000000000 / psum od marks sh 5).toInt32) k (am_s M (3, 0, 1) f0) = am_s M (3, 0, 1) (put5 f0 (640 + 5 * c) (newS od marks sh k)) := by
        intro k
        induction k with
        | zero =>
          intro _
          have e : newS od marks sh 0 = sh := by funext i; simp [newS]
          have e2 : put5 f0 (640 + 5 * c) sh = f0 := by
            rw [show sh = (fun k => f0 (640 + 5 * c + k)) from funext fun k => (shk k).symm, put5_id]
          show am_s M (3, 0, 1) f0 = _
          rw [e, e2]
        | succ k ih =>
          intro hk
          show am_u (foldS _ k _) (3, 0, 1) (640 + 5 * c + k) _ = _
          rw [ih (by omega), am_u_s, put5_upd (by omega), newS_s]
      refine loopN 5 (fun n i (s : am_I) => w_X12_seen_p156 post n (nI c) (psum od marks sh 5) i s (am_s N (3, 0, 23) wv)) (fun k s => am_u s (3, 0, 1) (640 + 5 * c + k) (partS od marks sh k * 1000000000 / psum od marks sh 5).toInt32) (am_s M (3, 0, 1) f0) (fun m k hk hn => ?_) ?_
      · rw [w_X12_seen_p156_s]
        unfold w_X12_seen_p156_b
        rw [ix, nI_clamp (show k < 2 ^ 31 by omega), nI_clamp (show 640 + 5 * c + k < 2 ^ 31 by omega), am_s_same, hwv k hk, nI_1]
        exact ⟨fun z => absurd z (nI_ge (b := 5) hk (by omega)), fun _ => ⟨fun z => absurd z hle, fun _ => ⟨vp_in_nI hk (by omega), hne, vp_in_nI (by omega) (by omega), hn⟩⟩⟩
      · rw [fl 5 (Nat.le_refl _)]
        rw [w_X12_seen_p156_s]
        unfold w_X12_seen_p156_b
        exact ⟨fun _ => h wv, fun z => absurd (Int32.le_refl _) z⟩
    · rw [if_neg hpos] at h
      rw [show (6 : Nat) = 5 + 1 from rfl, w_X12_seen_p156_s]
      unfold w_X12_seen_p156_b
      exact ⟨fun z => absurd z (by decide), fun _ => ⟨fun _ => h wv, fun z => absurd (Int64.not_lt.mp hpos) z⟩⟩
  have inner : ∀ (zk : Int32 → Int32 → Int64 → Int32 → am_I → am_N → Prop) (k : Nat) (S : Int64), k < 5 → (∀ wv : Nat → Int64, wv k = partS od marks sh k → ∀ wv0 : Nat → Int64, (∀ i, i ≠ k → wv i = wv0 i) → True) →
      ∀ wv0 : Nat → Int64, zk (nI c) marks (S + partS od marks sh k) (nI (k + 1)) (am_s M (3, 0, 1) f0) (am_s N (3, 0, 23) (vp_updL wv0 k (partS od marks sh k))) →
      ∀ (j m : Nat), m + j = 4 → w_X12_seen_p65 post zk (j + 1) (nI c) marks S (nI k) (nI m) (am_s M (3, 0, 1) f0) (am_s N (3, 0, 23) (vp_updL wv0 k (wgh (od k) marks (sh k).toInt64 m))) := by
    intro zk k S hk _ wv0 hz j
    have v5 : vp_in (nI k) 5 := vp_in_nI hk (by omega)
    induction j with
    | zero =>
      intro m hm
      have e : m = 4 := by omega
      subst e
      rw [w_X12_seen_p65_s]
      unfold w_X12_seen_p65_b
      rw [nI_clamp (show k < 2 ^ 31 by omega), am_s_same, pk_uLs, nI_1 k]
      refine ⟨fun _ => ⟨v5, fun u hu => ?_⟩, fun z => absurd (Int32.le_refl _) z⟩
      subst hu
      exact hz
    | succ j ih =>
      intro m hm
      have hm4 : m < 4 := by omega
      have hn := ih (m + 1) (by omega)
      rw [w_X12_seen_p65_s]
      unfold w_X12_seen_p65_b w_X12_seen_p124
      have e4 : (4 : Int32) * nI k + nI m = nI (4 * k + m) := by rw [xm4, nI_add]
      rw [e4, nI_clamp (show k < 2 ^ 31 by omega), nI_clamp (show 4 * k + m < 2 ^ 31 by omega), am_s_same, pk_uLs, odk, nI_1 m, am_ul_s]
      have eupd : ∀ x : Int64, vp_updL (vp_updL wv0 k (wgh (od k) marks (sh k).toInt64 m)) k x = vp_updL wv0 k x := fun x => by
        funext i
        unfold vp_updL
        by_cases e : i = k <;> simp [e]
      have e : wgh (od k) marks (sh k).toInt64 (m + 1) = (wgh (od k) marks (sh k).toInt64 m * (if (marks >>> (nI m &&& 31)) &&& 1 = 1 then od k m else 100 - od k m).toInt64) / 100 := rfl
      have v20 : vp_in (nI (4 * k + m)) 20 := vp_in_nI (by omega) (by omega)
      rw [eupd]
      refine ⟨fun z => absurd z (nI_ge (b := 4) hm4 (by omega)), fun _ => ⟨v5, fun z => ⟨v20, v5, ?_⟩, fun z => ⟨v20, v5, ?_⟩⟩⟩
      · rw [e, if_neg z] at hn
        exact hn
      · rw [e, if_pos z] at hn
        rw [am_ul_s, eupd]
        exact hn
  have key : ∀ (j k : Nat), k + j = 5 → ∀ wv : Nat → Int64, (∀ i, i < k → wv i = partS od marks sh i) → w_X12_seen_p33 post (j + 1) (nI c) marks (psum od marks sh k) (nI k) (am_s M (3, 0, 1) f0) (am_s N (3, 0, 23) wv) := by
    intro j
    induction j with
    | zero =>
      intro k hk wv hwv
      have e : k = 5 := by omega
      subst e
      rw [w_X12_seen_p33_s]
      unfold w_X12_seen_p33_b
      exact ⟨fun _ => ⟨6, fin wv hwv⟩, fun z => absurd (Int32.le_refl _) z⟩
    | succ j ih =>
      intro k hk wv hwv
      have hk5 : k < 5 := by omega
      rw [w_X12_seen_p33_s]
      unfold w_X12_seen_p33_b
      rw [ix, nI_clamp (show 640 + 5 * c + k < 2 ^ 31 by omega), nI_clamp (show k < 2 ^ 31 by omega), am_s_same, shk, am_ul_s]
      refine ⟨fun z => absurd z (nI_ge (b := 5) hk5 (by omega)), fun _ => ⟨vp_in_nI (by omega) (by omega), vp_in_nI hk5 (by omega), 5, ?_⟩⟩
      exact inner _ k _ hk5 (fun _ _ _ _ => trivial) wv (ih (k + 1) (by omega) _ (fun i hi => by
        by_cases e : i = k
        · subst e; rw [pk_uLs]
        · rw [pk_uLn e]; exact hwv i (by omega))) 4 0 (by omega)
  refine ⟨6, ?_⟩
  have h9 := key 5 0 (by omega) (N (3, 0, 23)) (fun i hi => by omega)
  rw [am_s_id] at h9
  exact h9
end SM
