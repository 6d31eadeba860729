/-! ===== the law: its loop, its start ===== -/
section LP
variable {L : Nat} {xs : Nat → Int32}
theorem l_case {j : Nat} {M : am_I} {N : am_N} (hI : INV M N) (hj : j + 6 < L) (hL : L ≤ 3584) (kk : ∀ M N, INV M N → jl L xs 1253 (lvL (nI j)) [] M N) : ∀ v, v < 32 → jl L xs 33 (lvL (nI j)) [.inl (nI v)] M N := by
  intro v hv
  have H : ∀ (v : Nat) (off tgt : Nat), v < 30 → (#[135, 178, 211, 254, 317, 340, 383, 406, 497, 520, 553, 586, 635, 658, 691, 724, 757, 790, 833, 857, 890, 933, 966, 989, 1052, 1075, 1088, 1121, 1144, 1197] : Array Int)[v]? = some (off : Int) → tgt = 33 + off → jl L xs tgt (lvL (nI j)) [] M N → jl L xs 33 (lvL (nI j)) [.inl (nI v)] M N := by
    intro v off tgt hv ho ht kk
    refine l_in (off := (off : Int)) (tgt := tgt) dL_33 ?_ ?_ ?_ (by omega) kk
    · rw [nI_toInt (by omega)]; omega
    · rw [nI_toInt (by omega)]; omega
    · rw [nI_toInt (by omega)]
      rw [show ((v : Int) - 0).toNat = v by omega]
      exact ho
  have : v = 0 ∨ v = 1 ∨ v = 2 ∨ v = 3 ∨ v = 4 ∨ v = 5 ∨ v = 6 ∨ v = 7 ∨ v = 8 ∨ v = 9 ∨ v = 10 ∨ v = 11 ∨ v = 12 ∨ v = 13 ∨ v = 14 ∨ v = 15 ∨ v = 16 ∨ v = 17 ∨ v = 18 ∨ v = 19 ∨ v = 20 ∨ v = 21 ∨ v = 22 ∨ v = 23 ∨ v = 24 ∨ v = 25 ∨ v = 26 ∨ v = 27 ∨ v = 28 ∨ v = 29 ∨ v = 30 ∨ v = 31 := by omega
  rcases this with e | e | e | e | e | e | e | e | e | e | e | e | e | e | e | e | e | e | e | e | e | e | e | e | e | e | e | e | e | e | e | e <;> subst e
  · exact H 0 135 168 (by decide) rfl rfl (lc_0 hI hj hL kk)
  · exact H 1 178 211 (by decide) rfl rfl (lc_1 hI hj hL kk)
  · exact H 2 211 244 (by decide) rfl rfl (lc_2 hI hj hL kk)
  · exact H 3 254 287 (by decide) rfl rfl (lc_3 hI hj hL kk)
  · exact H 4 317 350 (by decide) rfl rfl (lc_4 hI hj hL kk)
  · exact H 5 340 373 (by decide) rfl rfl (lc_5 hI hj hL kk)
  · exact H 6 383 416 (by decide) rfl rfl (lc_6 hI hj hL kk)
  · exact H 7 406 439 (by decide) rfl rfl (lc_7 hI hj hL kk)
  · exact H 8 497 530 (by decide) rfl rfl (lc_8 hI hj hL kk)
  · exact H 9 520 553 (by decide) rfl rfl (lc_9 hI hj hL kk)
  · exact H 10 553 586 (by decide) rfl rfl (lc_10 hI hj hL kk)
  · exact H 11 586 619 (by decide) rfl rfl (lc_11 hI hj hL kk)
  · exact H 12 635 668 (by decide) rfl rfl (lc_12 hI hj hL kk)
  · exact H 13 658 691 (by decide) rfl rfl (lc_13 hI hj hL kk)
  · exact H 14 691 724 (by decide) rfl rfl (lc_14 hI hj hL kk)
  · exact H 15 724 757 (by decide) rfl rfl (lc_15 hI hj hL kk)
  · exact H 16 757 790 (by decide) rfl rfl (lc_16 hI hj hL kk)
  · exact H 17 790 823 (by decide) rfl rfl (lc_17 hI hj hL kk)
  · exact H 18 833 866 (by decide) rfl rfl (lc_18 hI hj hL kk)
  · exact H 19 857 890 (by decide) rfl rfl (lc_19 hI hj hL kk)
  · exact H 20 890 923 (by decide) rfl rfl (lc_20 hI hj hL kk)
  · exact H 21 933 966 (by decide) rfl rfl (lc_21 hI hj hL kk)
  · exact H 22 966 999 (by decide) rfl rfl (lc_22 hI hj hL kk)
  · exact H 23 989 1022 (by decide) rfl rfl (lc_23 hI hj hL kk)
  · exact H 24 1052 1085 (by decide) rfl rfl (lc_24 hI hj hL kk)
  · exact H 25 1075 1108 (by decide) rfl rfl (lc_25 hI hj hL kk)
  · exact H 26 1088 1121 (by decide) rfl rfl (lc_26 hI hj hL kk)
  · exact H 27 1121 1154 (by decide) rfl rfl (lc_27 hI hj hL kk)
  · exact H 28 1144 1177 (by decide) rfl rfl (lc_28 hI hj hL kk)
  · exact H 29 1197 1230 (by decide) rfl rfl (lc_29 hI hj hL kk)
  · exact l_out (tgt := 1253) dL_33 (Or.inr (by decide)) (by decide) (kk M N hI)
  · exact l_out (tgt := 1253) dL_33 (Or.inr (by decide)) (by decide) (kk M N hI)
theorem l_loop (hL : L ≤ 3584) : ∀ (d j : Nat) (M : am_I) (N : am_N), L < j + d → j ≤ 4000 → INV M N → jl L xs 18 (lvL (nI j)) [] M N := by
  intro d
  induction d with
  | zero =>
    intro j M N hd hj hI
    refine l_iload_n 0 dL_18 rfl (l_aload_n 3 dL_19 rfl (l_slen dL_20 (l_bipush (v := nI 7) dL_21 (by decide) (l_isub dL_23 ?_))))
    refine l_icmp_gt (tgt := 1259) dL_24 (by decide) (fun _ => l_iconst (v := 1) dL_1259 rfl (l_ret dL_1260)) (fun z => absurd ?_ z)
    by_cases h7 : 7 ≤ L
    · rw [pk_sub h7]; exact nI_lt (by omega) (by omega)
    · exact Int32.lt_of_lt_of_le (pk_sneg (by omega) (by omega)) (nI_pos' (by omega))
  | succ d ih =>
    intro j M N hd hj hI
    refine l_iload_n 0 dL_18 rfl (l_aload_n 3 dL_19 rfl (l_slen dL_20 (l_bipush (v := nI 7) dL_21 (by decide) (l_isub dL_23 ?_))))
    refine l_icmp_gt (tgt := 1259) dL_24 (by decide) (fun _ => l_iconst (v := 1) dL_1259 rfl (l_ret dL_1260)) (fun z => ?_)
    have h7 : 7 ≤ L := Nat.le_of_not_lt fun w => z (Int32.lt_of_lt_of_le (pk_sneg (by omega) (by omega)) (nI_pos' (by omega)))
    rw [pk_sub h7] at z
    have hj6 : j + 6 < L := by
      have : ¬ L - 7 < j := fun w => z (nI_lt w (by omega))
      omega
    refine l_aload_n 3 dL_27 rfl (l_iload_n 0 dL_28 rfl (l_sld dL_29 (vp_in_nI (by omega) (by omega)) (l_bipush (v := 31) dL_30 (by decide) (l_iand dL_32 ?_))))
    obtain ⟨v, hv, ev⟩ := pk_andE (xs (nI j).toNatClampNeg) (m := 31) 5 (by decide)
    rw [ev]
    refine l_case hI hj6 hL (fun M1 N1 hI1 => ?_) v hv
    refine l_iinc 0 (v := nI (j + 7)) dL_1253 rfl (nI_add j 7) (by decide) rfl (l_goto (tgt := 18) dL_1256 (by decide) ?_)
    exact ih (j + 7) M1 N1 (by omega) (by omega) hI1
end LP
