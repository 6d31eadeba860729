/-! ===== methods: 20.reader2 ===== -/
theorem dX7_readStatement_0 : decode mX7_readStatement.2.1 0 = .ok (.aload_n 0, 1) := by decide +kernel
theorem dX7_readStatement_1 : decode mX7_readStatement.2.1 1 = .ok (.invokevirtual 47, 3) := by decide +kernel
theorem dX7_readStatement_4 : decode mX7_readStatement.2.1 4 = .ok (.istore_n 1, 1) := by decide +kernel
theorem dX7_readStatement_5 : decode mX7_readStatement.2.1 5 = .ok (.iload_n 1, 1) := by decide +kernel
theorem dX7_readStatement_6 : decode mX7_readStatement.2.1 6 = .ok (.iconst 1, 1) := by decide +kernel
theorem dX7_readStatement_7 : decode mX7_readStatement.2.1 7 = .ok (.iconst 4, 1) := by decide +kernel
theorem dX7_readStatement_8 : decode mX7_readStatement.2.1 8 = .ok (.invokestatic 95, 3) := by decide +kernel
theorem dX7_readStatement_11 : decode mX7_readStatement.2.1 11 = .ok (.ifCond .ne 5, 3) := by decide +kernel
theorem dX7_readStatement_14 : decode mX7_readStatement.2.1 14 = .ok (.iconst 0, 1) := by decide +kernel
theorem dX7_readStatement_15 : decode mX7_readStatement.2.1 15 = .ok (.ireturn, 1) := by decide +kernel
theorem dX7_readStatement_16 : decode mX7_readStatement.2.1 16 = .ok (.aload_n 0, 1) := by decide +kernel
theorem dX7_readStatement_17 : decode mX7_readStatement.2.1 17 = .ok (.dup, 1) := by decide +kernel
theorem dX7_readStatement_18 : decode mX7_readStatement.2.1 18 = .ok (.getfield 38, 3) := by decide +kernel
theorem dX7_readStatement_21 : decode mX7_readStatement.2.1 21 = .ok (.iconst 1, 1) := by decide +kernel
theorem dX7_readStatement_22 : decode mX7_readStatement.2.1 22 = .ok (.iadd, 1) := by decide +kernel
theorem dX7_readStatement_23 : decode mX7_readStatement.2.1 23 = .ok (.putfield 38, 3) := by decide +kernel
theorem dX7_readStatement_26 : decode mX7_readStatement.2.1 26 = .ok (.iload_n 1, 1) := by decide +kernel
theorem dX7_readStatement_27 : decode mX7_readStatement.2.1 27 = .ok (.iconst 4, 1) := by decide +kernel
theorem dX7_readStatement_28 : decode mX7_readStatement.2.1 28 = .ok (.if_icmp .eq 11, 3) := by decide +kernel
theorem dX7_readStatement_31 : decode mX7_readStatement.2.1 31 = .ok (.aload_n 0, 1) := by decide +kernel
theorem dX7_readStatement_32 : decode mX7_readStatement.2.1 32 = .ok (.iconst 0, 1) := by decide +kernel
theorem dX7_readStatement_33 : decode mX7_readStatement.2.1 33 = .ok (.invokevirtual 99, 3) := by decide +kernel
theorem dX7_readStatement_36 : decode mX7_readStatement.2.1 36 = .ok (.goto 13, 3) := by decide +kernel
theorem dX7_readStatement_39 : decode mX7_readStatement.2.1 39 = .ok (.aload_n 0, 1) := by decide +kernel
theorem dX7_readStatement_40 : decode mX7_readStatement.2.1 40 = .ok (.iconst 0, 1) := by decide +kernel
theorem dX7_readStatement_41 : decode mX7_readStatement.2.1 41 = .ok (.invokevirtual 102, 3) := by decide +kernel
theorem dX7_readStatement_44 : decode mX7_readStatement.2.1 44 = .ok (.ifCond .ne 5, 3) := by decide +kernel
theorem dX7_readStatement_47 : decode mX7_readStatement.2.1 47 = .ok (.iconst 0, 1) := by decide +kernel
theorem dX7_readStatement_48 : decode mX7_readStatement.2.1 48 = .ok (.ireturn, 1) := by decide +kernel
theorem dX7_readStatement_49 : decode mX7_readStatement.2.1 49 = .ok (.aload_n 0, 1) := by decide +kernel
theorem dX7_readStatement_50 : decode mX7_readStatement.2.1 50 = .ok (.iconst 5, 1) := by decide +kernel
theorem dX7_readStatement_51 : decode mX7_readStatement.2.1 51 = .ok (.invokevirtual 106, 3) := by decide +kernel
theorem dX7_readStatement_54 : decode mX7_readStatement.2.1 54 = .ok (.ifCond .ne 11, 3) := by decide +kernel
theorem dX7_readStatement_57 : decode mX7_readStatement.2.1 57 = .ok (.aload_n 0, 1) := by decide +kernel
theorem dX7_readStatement_58 : decode mX7_readStatement.2.1 58 = .ok (.iconst 1, 1) := by decide +kernel
theorem dX7_readStatement_59 : decode mX7_readStatement.2.1 59 = .ok (.invokevirtual 99, 3) := by decide +kernel
theorem dX7_readStatement_62 : decode mX7_readStatement.2.1 62 = .ok (.goto 13, 3) := by decide +kernel
theorem dX7_readStatement_65 : decode mX7_readStatement.2.1 65 = .ok (.aload_n 0, 1) := by decide +kernel
theorem dX7_readStatement_66 : decode mX7_readStatement.2.1 66 = .ok (.iconst 0, 1) := by decide +kernel
theorem dX7_readStatement_67 : decode mX7_readStatement.2.1 67 = .ok (.invokevirtual 109, 3) := by decide +kernel
theorem dX7_readStatement_70 : decode mX7_readStatement.2.1 70 = .ok (.ifCond .ne 5, 3) := by decide +kernel
theorem dX7_readStatement_73 : decode mX7_readStatement.2.1 73 = .ok (.iconst 0, 1) := by decide +kernel
theorem dX7_readStatement_74 : decode mX7_readStatement.2.1 74 = .ok (.ireturn, 1) := by decide +kernel
theorem dX7_readStatement_75 : decode mX7_readStatement.2.1 75 = .ok (.aload_n 0, 1) := by decide +kernel
theorem dX7_readStatement_76 : decode mX7_readStatement.2.1 76 = .ok (.bipush 59, 2) := by decide +kernel
theorem dX7_readStatement_78 : decode mX7_readStatement.2.1 78 = .ok (.invokevirtual 106, 3) := by decide +kernel
theorem dX7_readStatement_81 : decode mX7_readStatement.2.1 81 = .ok (.ifCond .ne 5, 3) := by decide +kernel
theorem dX7_readStatement_84 : decode mX7_readStatement.2.1 84 = .ok (.iconst 0, 1) := by decide +kernel
theorem dX7_readStatement_85 : decode mX7_readStatement.2.1 85 = .ok (.ireturn, 1) := by decide +kernel
theorem dX7_readStatement_86 : decode mX7_readStatement.2.1 86 = .ok (.aload_n 0, 1) := by decide +kernel
theorem dX7_readStatement_87 : decode mX7_readStatement.2.1 87 = .ok (.iload_n 1, 1) := by decide +kernel
theorem dX7_readStatement_88 : decode mX7_readStatement.2.1 88 = .ok (.ineg, 1) := by decide +kernel
theorem dX7_readStatement_89 : decode mX7_readStatement.2.1 89 = .ok (.invokevirtual 99, 3) := by decide +kernel
theorem dX7_readStatement_92 : decode mX7_readStatement.2.1 92 = .ok (.aload_n 0, 1) := by decide +kernel
theorem dX7_readStatement_93 : decode mX7_readStatement.2.1 93 = .ok (.dup, 1) := by decide +kernel
theorem dX7_readStatement_94 : decode mX7_readStatement.2.1 94 = .ok (.getfield 44, 3) := by decide +kernel
theorem dX7_readStatement_97 : decode mX7_readStatement.2.1 97 = .ok (.iconst 1, 1) := by decide +kernel
theorem dX7_readStatement_98 : decode mX7_readStatement.2.1 98 = .ok (.iadd, 1) := by decide +kernel
theorem dX7_readStatement_99 : decode mX7_readStatement.2.1 99 = .ok (.putfield 44, 3) := by decide +kernel
theorem dX7_readStatement_102 : decode mX7_readStatement.2.1 102 = .ok (.iconst 1, 1) := by decide +kernel
theorem dX7_readStatement_103 : decode mX7_readStatement.2.1 103 = .ok (.ireturn, 1) := by decide +kernel
theorem dX7_split_0 : decode mX7_split.2.1 0 = .ok (.aload_n 0, 1) := by decide +kernel
theorem dX7_split_1 : decode mX7_split.2.1 1 = .ok (.iconst 0, 1) := by decide +kernel
theorem dX7_split_2 : decode mX7_split.2.1 2 = .ok (.putfield 58, 3) := by decide +kernel
theorem dX7_split_5 : decode mX7_split.2.1 5 = .ok (.iconst 0, 1) := by decide +kernel
theorem dX7_split_6 : decode mX7_split.2.1 6 = .ok (.istore_n 2, 1) := by decide +kernel
theorem dX7_split_7 : decode mX7_split.2.1 7 = .ok (.iconst 0, 1) := by decide +kernel
theorem dX7_split_8 : decode mX7_split.2.1 8 = .ok (.istore_n 3, 1) := by decide +kernel
theorem dX7_split_9 : decode mX7_split.2.1 9 = .ok (.iload_n 3, 1) := by decide +kernel
theorem dX7_split_10 : decode mX7_split.2.1 10 = .ok (.iload_n 1, 1) := by decide +kernel
theorem dX7_split_11 : decode mX7_split.2.1 11 = .ok (.if_icmp .ge 53, 3) := by decide +kernel
theorem dX7_split_14 : decode mX7_split.2.1 14 = .ok (.aload_n 0, 1) := by decide +kernel
theorem dX7_split_15 : decode mX7_split.2.1 15 = .ok (.getfield 11, 3) := by decide +kernel
theorem dX7_split_18 : decode mX7_split.2.1 18 = .ok (.iload_n 3, 1) := by decide +kernel
theorem dX7_split_19 : decode mX7_split.2.1 19 = .ok (.iaload, 1) := by decide +kernel
theorem dX7_split_20 : decode mX7_split.2.1 20 = .ok (.invokestatic 61, 3) := by decide +kernel
theorem dX7_split_23 : decode mX7_split.2.1 23 = .ok (.istore 4, 2) := by decide +kernel
theorem dX7_split_25 : decode mX7_split.2.1 25 = .ok (.iload 4, 2) := by decide +kernel
theorem dX7_split_27 : decode mX7_split.2.1 27 = .ok (.ifCond .eq 28, 3) := by decide +kernel
theorem dX7_split_30 : decode mX7_split.2.1 30 = .ok (.iload 4, 2) := by decide +kernel
theorem dX7_split_32 : decode mX7_split.2.1 32 = .ok (.iconst 3, 1) := by decide +kernel
theorem dX7_split_33 : decode mX7_split.2.1 33 = .ok (.if_icmp .eq 9, 3) := by decide +kernel
theorem dX7_split_36 : decode mX7_split.2.1 36 = .ok (.iload 4, 2) := by decide +kernel
theorem dX7_split_38 : decode mX7_split.2.1 38 = .ok (.iload_n 2, 1) := by decide +kernel
theorem dX7_split_39 : decode mX7_split.2.1 39 = .ok (.if_icmp .eq 16, 3) := by decide +kernel
theorem dX7_split_42 : decode mX7_split.2.1 42 = .ok (.aload_n 0, 1) := by decide +kernel
theorem dX7_split_43 : decode mX7_split.2.1 43 = .ok (.aload_n 0, 1) := by decide +kernel
theorem dX7_split_44 : decode mX7_split.2.1 44 = .ok (.iload_n 3, 1) := by decide +kernel
theorem dX7_split_45 : decode mX7_split.2.1 45 = .ok (.iload_n 1, 1) := by decide +kernel
theorem dX7_split_46 : decode mX7_split.2.1 46 = .ok (.iload 4, 2) := by decide +kernel
theorem dX7_split_48 : decode mX7_split.2.1 48 = .ok (.invokevirtual 65, 3) := by decide +kernel
theorem dX7_split_51 : decode mX7_split.2.1 51 = .ok (.iload_n 3, 1) := by decide +kernel
theorem dX7_split_52 : decode mX7_split.2.1 52 = .ok (.invokevirtual 69, 3) := by decide +kernel
theorem dX7_split_55 : decode mX7_split.2.1 55 = .ok (.iload 4, 2) := by decide +kernel
theorem dX7_split_57 : decode mX7_split.2.1 57 = .ok (.istore_n 2, 1) := by decide +kernel
theorem dX7_split_58 : decode mX7_split.2.1 58 = .ok (.iinc 3 1, 3) := by decide +kernel
theorem dX7_split_61 : decode mX7_split.2.1 61 = .ok (.goto (-52), 3) := by decide +kernel
theorem dX7_split_64 : decode mX7_split.2.1 64 = .ok (.aload_n 0, 1) := by decide +kernel
theorem dX7_split_65 : decode mX7_split.2.1 65 = .ok (.iconst 0, 1) := by decide +kernel
theorem dX7_split_66 : decode mX7_split.2.1 66 = .ok (.iload_n 1, 1) := by decide +kernel
theorem dX7_split_67 : decode mX7_split.2.1 67 = .ok (.invokevirtual 69, 3) := by decide +kernel
theorem dX7_split_70 : decode mX7_split.2.1 70 = .ok (.return_, 1) := by decide +kernel
theorem dX7_read_0 : decode mX7_read.2.1 0 = .ok (.aload_n 0, 1) := by decide +kernel
theorem dX7_read_1 : decode mX7_read.2.1 1 = .ok (.iload_n 1, 1) := by decide +kernel
theorem dX7_read_2 : decode mX7_read.2.1 2 = .ok (.aload_n 0, 1) := by decide +kernel
theorem dX7_read_3 : decode mX7_read.2.1 3 = .ok (.getfield 24, 3) := by decide +kernel
theorem dX7_read_6 : decode mX7_read.2.1 6 = .ok (.invokestatic 28, 3) := by decide +kernel
theorem dX7_read_9 : decode mX7_read.2.1 9 = .ok (.invokevirtual 34, 3) := by decide +kernel
theorem dX7_read_12 : decode mX7_read.2.1 12 = .ok (.aload_n 0, 1) := by decide +kernel
theorem dX7_read_13 : decode mX7_read.2.1 13 = .ok (.iconst 0, 1) := by decide +kernel
theorem dX7_read_14 : decode mX7_read.2.1 14 = .ok (.putfield 24, 3) := by decide +kernel
theorem dX7_read_17 : decode mX7_read.2.1 17 = .ok (.aload_n 0, 1) := by decide +kernel
theorem dX7_read_18 : decode mX7_read.2.1 18 = .ok (.iconst 0, 1) := by decide +kernel
theorem dX7_read_19 : decode mX7_read.2.1 19 = .ok (.putfield 38, 3) := by decide +kernel
theorem dX7_read_22 : decode mX7_read.2.1 22 = .ok (.aload_n 0, 1) := by decide +kernel
theorem dX7_read_23 : decode mX7_read.2.1 23 = .ok (.iconst 0, 1) := by decide +kernel
theorem dX7_read_24 : decode mX7_read.2.1 24 = .ok (.putfield 41, 3) := by decide +kernel
theorem dX7_read_27 : decode mX7_read.2.1 27 = .ok (.aload_n 0, 1) := by decide +kernel
theorem dX7_read_28 : decode mX7_read.2.1 28 = .ok (.iconst 0, 1) := by decide +kernel
theorem dX7_read_29 : decode mX7_read.2.1 29 = .ok (.putfield 44, 3) := by decide +kernel
theorem dX7_read_32 : decode mX7_read.2.1 32 = .ok (.iconst 1, 1) := by decide +kernel
theorem dX7_read_33 : decode mX7_read.2.1 33 = .ok (.istore_n 2, 1) := by decide +kernel
theorem dX7_read_34 : decode mX7_read.2.1 34 = .ok (.iconst 0, 1) := by decide +kernel
theorem dX7_read_35 : decode mX7_read.2.1 35 = .ok (.istore_n 3, 1) := by decide +kernel
theorem dX7_read_36 : decode mX7_read.2.1 36 = .ok (.iload_n 3, 1) := by decide +kernel
theorem dX7_read_37 : decode mX7_read.2.1 37 = .ok (.bipush 24, 2) := by decide +kernel
theorem dX7_read_39 : decode mX7_read.2.1 39 = .ok (.if_icmp .ge 25, 3) := by decide +kernel
theorem dX7_read_42 : decode mX7_read.2.1 42 = .ok (.iload_n 2, 1) := by decide +kernel
theorem dX7_read_43 : decode mX7_read.2.1 43 = .ok (.ifCond .eq 21, 3) := by decide +kernel
theorem dX7_read_46 : decode mX7_read.2.1 46 = .ok (.aload_n 0, 1) := by decide +kernel
theorem dX7_read_47 : decode mX7_read.2.1 47 = .ok (.invokevirtual 47, 3) := by decide +kernel
theorem dX7_read_50 : decode mX7_read.2.1 50 = .ok (.ifCond .eq 14, 3) := by decide +kernel
theorem dX7_read_53 : decode mX7_read.2.1 53 = .ok (.aload_n 0, 1) := by decide +kernel
theorem dX7_read_54 : decode mX7_read.2.1 54 = .ok (.invokevirtual 51, 3) := by decide +kernel
theorem dX7_read_57 : decode mX7_read.2.1 57 = .ok (.istore_n 2, 1) := by decide +kernel
theorem dX7_read_58 : decode mX7_read.2.1 58 = .ok (.iinc 3 1, 3) := by decide +kernel
theorem dX7_read_61 : decode mX7_read.2.1 61 = .ok (.goto (-25), 3) := by decide +kernel
theorem dX7_read_64 : decode mX7_read.2.1 64 = .ok (.iload_n 2, 1) := by decide +kernel
theorem dX7_read_65 : decode mX7_read.2.1 65 = .ok (.ifCond .eq 14, 3) := by decide +kernel
theorem dX7_read_68 : decode mX7_read.2.1 68 = .ok (.aload_n 0, 1) := by decide +kernel
theorem dX7_read_69 : decode mX7_read.2.1 69 = .ok (.invokevirtual 47, 3) := by decide +kernel
theorem dX7_read_72 : decode mX7_read.2.1 72 = .ok (.ifCond .ne 7, 3) := by decide +kernel
theorem dX7_read_75 : decode mX7_read.2.1 75 = .ok (.iconst (-1), 1) := by decide +kernel
theorem dX7_read_76 : decode mX7_read.2.1 76 = .ok (.goto 7, 3) := by decide +kernel
theorem dX7_read_79 : decode mX7_read.2.1 79 = .ok (.aload_n 0, 1) := by decide +kernel
theorem dX7_read_80 : decode mX7_read.2.1 80 = .ok (.invokevirtual 55, 3) := by decide +kernel
theorem dX7_read_83 : decode mX7_read.2.1 83 = .ok (.ireturn, 1) := by decide +kernel
def w_X7_readStatement_p75 (post : Int32 → am_I → am_N → Prop) (l1 : Int32) (M : am_I) (N : am_N) : Prop :=
  w_X7_accept 59 M N (fun zr1 zM2 zN3 => ((¬ zr1 = 0 → w_X7_emit (-l1) zM2 zN3 (fun zM4 zN5 => post 1 (am_u zM4 (0, 0, 7) 8 ((zM4 (0, 0, 7) 8) + 1)) zN5)) ∧ (zr1 = 0 → post 0 zM2 zN3)))
set_option maxRecDepth 10000 in
theorem k_X7_readStatement_p75 {d : Nat} {dm : List am_C} (h0 : am_d0 dm) {post : Int32 → am_I → am_N → Prop} (l1 : Int32) (M : am_I) (N : am_N) (h : w_X7_readStatement_p75 post l1 M N) : jg (d + 43) mX7_readStatement dm 75 [(0, .inr (.inr (0, 0, 7))), (1, .inl l1)] [] M N (am_pi post) := by
  refine j_aload_n 0 dX7_readStatement_75 rfl ?_
  refine j_bipush (v := 59) dX7_readStatement_76 (by decide) ?_
  refine j_invV (As := [.inl 59]) dX7_readStatement_78 msRX7_106 mbX7_accept rfl rfl (Nat.le_of_ble_eq_true rfl) (Nat.le_of_ble_eq_true rfl) (by omega) (h0 7 (by decide)) rfl rfl (k_X7_accept (d := d + 41) h0 h) ?_
  rintro _ zM2 zN3 ⟨zr1, rfl, h⟩
  refine j_if_ne (tgt := 86) dX7_readStatement_81 (by decide) (fun hc => ?_) (fun hc => ?_)
  · replace h := h.1 hc
    refine j_aload_n 0 dX7_readStatement_86 rfl ?_
    refine j_iload_n 1 dX7_readStatement_87 rfl ?_
    refine j_ineg dX7_readStatement_88 ?_
    refine j_invV (As := [.inl (-l1)]) dX7_readStatement_89 msRX7_99 mbX7_emit rfl rfl (Nat.le_of_ble_eq_true rfl) (Nat.le_of_ble_eq_true rfl) (by omega) (h0 7 (by decide)) rfl rfl (k_X7_emit (d := d + 41) h0 h) ?_
    rintro _ zM4 zN5 ⟨rfl, h⟩
    refine j_aload_n 0 dX7_readStatement_92 rfl ?_
    refine j_dup dX7_readStatement_93 rfl ?_
    refine j_getI dX7_readStatement_94 fsRX7_44 (h0 7 (by decide)) rfl ?_
    refine j_iconst (v := 1) dX7_readStatement_97 (by decide) ?_
    refine j_iadd dX7_readStatement_98 ?_
    refine j_putI dX7_readStatement_99 fwRX7_44 (h0 7 (by decide)) rfl ?_
    refine j_iconst (v := 1) dX7_readStatement_102 (by decide) ?_
    exact j_zret dX7_readStatement_103 rfl (Or.inr rfl) ⟨_, rfl, h⟩
  · replace h := h.2 hc
    refine j_iconst (v := 0) dX7_readStatement_84 (by decide) ?_
    exact j_zret dX7_readStatement_85 rfl (Or.inl rfl) ⟨_, rfl, h⟩
def w_X7_readStatement_p49 (post : Int32 → am_I → am_N → Prop) (l1 : Int32) (M : am_I) (N : am_N) : Prop :=
  w_X7_accept 5 M N (fun zr1 zM2 zN3 => ((¬ zr1 = 0 → w_X7_readAny 0 zM2 zN3 (fun zr4 zM5 zN6 => ((¬ zr4 = 0 → w_X7_readStatement_p75 post l1 zM5 zN6) ∧ (zr4 = 0 → post 0 zM5 zN6)))) ∧ (zr1 = 0 → w_X7_emit 1 zM2 zN3 (fun zM7 zN8 => w_X7_readStatement_p75 post l1 zM7 zN8))))
set_option maxRecDepth 10000 in
theorem k_X7_readStatement_p49 {d : Nat} {dm : List am_C} (h0 : am_d0 dm) {post : Int32 → am_I → am_N → Prop} (l1 : Int32) (M : am_I) (N : am_N) (h : w_X7_readStatement_p49 post l1 M N) : jg (d + 43) mX7_readStatement dm 49 [(0, .inr (.inr (0, 0, 7))), (1, .inl l1)] [] M N (am_pi post) := by
  refine j_aload_n 0 dX7_readStatement_49 rfl ?_
  refine j_iconst (v := 5) dX7_readStatement_50 (by decide) ?_
  refine j_invV (As := [.inl 5]) dX7_readStatement_51 msRX7_106 mbX7_accept rfl rfl (Nat.le_of_ble_eq_true rfl) (Nat.le_of_ble_eq_true rfl) (by omega) (h0 7 (by decide)) rfl rfl (k_X7_accept (d := d + 41) h0 h) ?_
  rintro _ zM2 zN3 ⟨zr1, rfl, h⟩
  refine j_if_ne (tgt := 65) dX7_readStatement_54 (by decide) (fun hc => ?_) (fun hc => ?_)
  · replace h := h.1 hc
    refine j_aload_n 0 dX7_readStatement_65 rfl ?_
    refine j_iconst (v := 0) dX7_readStatement_66 (by decide) ?_
    refine j_invV (As := [.inl 0]) dX7_readStatement_67 msRX7_109 mbX7_readAny rfl rfl (Nat.le_of_ble_eq_true rfl) (Nat.le_of_ble_eq_true rfl) (by omega) (h0 7 (by decide)) rfl rfl (k_X7_readAny (d := d + 0) h0 h) ?_
    rintro _ zM5 zN6 ⟨zr4, rfl, h⟩
    refine j_if_ne (tgt := 75) dX7_readStatement_70 (by decide) (fun hc => ?_) (fun hc => ?_)
    · replace h := h.1 hc
      refine j_sub [0, 1] rfl ?_
      exact k_X7_readStatement_p75 h0 _ _ _ h
    · replace h := h.2 hc
      refine j_iconst (v := 0) dX7_readStatement_73 (by decide) ?_
      exact j_zret dX7_readStatement_74 rfl (Or.inl rfl) ⟨_, rfl, h⟩
  · replace h := h.2 hc
    refine j_aload_n 0 dX7_readStatement_57 rfl ?_
    refine j_iconst (v := 1) dX7_readStatement_58 (by decide) ?_
    refine j_invV (As := [.inl 1]) dX7_readStatement_59 msRX7_99 mbX7_emit rfl rfl (Nat.le_of_ble_eq_true rfl) (Nat.le_of_ble_eq_true rfl) (by omega) (h0 7 (by decide)) rfl rfl (k_X7_emit (d := d + 41) h0 h) ?_
    rintro _ zM7 zN8 ⟨rfl, h⟩
    refine j_goto (tgt := 75) dX7_readStatement_62 (by decide) ?_
    refine j_sub [0, 1] rfl ?_
    exact k_X7_readStatement_p75 h0 _ _ _ h
def w_X7_readStatement (M : am_I) (N : am_N) (post : Int32 → am_I → am_N → Prop) : Prop :=
  w_X7_here M N (fun zr1 zM2 zN3 => w_X11_within zr1 1 4 zM2 zN3 (fun zr4 zM5 zN6 => ((¬ zr4 = 0 → ((zr1 = 4 → w_X7_readSum 0 (am_u zM5 (0, 0, 7) 6 ((zM5 (0, 0, 7) 6) + 1)) zN6 (fun zr7 zM8 zN9 => ((¬ zr7 = 0 → w_X7_readStatement_p49 post zr1 zM8 zN9) ∧ (zr7 = 0 → post 0 zM8 zN9)))) ∧ (¬ zr1 = 4 → w_X7_emit 0 (am_u zM5 (0, 0, 7) 6 ((zM5 (0, 0, 7) 6) + 1)) zN6 (fun zM10 zN11 => w_X7_readStatement_p49 post zr1 zM10 zN11)))) ∧ (zr4 = 0 → post 0 zM5 zN6))))
set_option maxRecDepth 10000 in
theorem k_X7_readStatement {d : Nat} {dm : List am_C} (h0 : am_d0 dm) {M : am_I} {N : am_N} {post : Int32 → am_I → am_N → Prop} (h : w_X7_readStatement M N post) : jg (d + 43) mX7_readStatement dm 0 [(0, .inr (.inr (0, 0, 7)))] [] M N (am_pi post) := by
  refine j_aload_n 0 dX7_readStatement_0 rfl ?_
  refine j_invV (As := []) dX7_readStatement_1 msRX7_47 mbX7_here rfl rfl (Nat.le_of_ble_eq_true rfl) (Nat.le_of_ble_eq_true rfl) (by omega) (h0 7 (by decide)) rfl rfl (k_X7_here (d := d + 41) h0 h) ?_
  rintro _ zM2 zN3 ⟨zr1, rfl, h⟩
  refine j_istore_n dX7_readStatement_4 (by decide) rfl ?_
  refine j_iload_n 0 dX7_readStatement_5 rfl ?_
  refine j_iconst (v := 1) dX7_readStatement_6 (by decide) ?_
  refine j_iconst (v := 4) dX7_readStatement_7 (by decide) ?_
  refine j_invS (As := [.inl zr1, .inl 1, .inl 4]) dX7_readStatement_8 msRX7_95 mbX11_within rfl rfl (Nat.le_of_ble_eq_true rfl) (Nat.le_of_ble_eq_true rfl) (by omega) (k_X11_within (d := d + 41)  h) ?_
  rintro _ zM5 zN6 ⟨zr4, rfl, h⟩
  refine j_if_ne (tgt := 16) dX7_readStatement_11 (by decide) (fun hc => ?_) (fun hc => ?_)
  · replace h := h.1 hc
    refine j_aload_n 1 dX7_readStatement_16 rfl ?_
    refine j_dup dX7_readStatement_17 rfl ?_
    refine j_getI dX7_readStatement_18 fsRX7_38 (h0 7 (by decide)) rfl ?_
    refine j_iconst (v := 1) dX7_readStatement_21 (by decide) ?_
    refine j_iadd dX7_readStatement_22 ?_
    refine j_putI dX7_readStatement_23 fwRX7_38 (h0 7 (by decide)) rfl ?_
    refine j_iload_n 0 dX7_readStatement_26 rfl ?_
    refine j_iconst (v := 4) dX7_readStatement_27 (by decide) ?_
    refine j_icmp_eq (tgt := 39) dX7_readStatement_28 (by decide) (fun hc => ?_) (fun hc => ?_)
    · replace h := h.1 hc
      refine j_aload_n 1 dX7_readStatement_39 rfl ?_
      refine j_iconst (v := 0) dX7_readStatement_40 (by decide) ?_
      refine j_invV (As := [.inl 0]) dX7_readStatement_41 msRX7_102 mbX7_readSum rfl rfl (Nat.le_of_ble_eq_true rfl) (Nat.le_of_ble_eq_true rfl) (by omega) (h0 7 (by decide)) rfl rfl (k_X7_readSum (d := d + 0) h0 h) ?_
      rintro _ zM8 zN9 ⟨zr7, rfl, h⟩
      refine j_if_ne (tgt := 49) dX7_readStatement_44 (by decide) (fun hc => ?_) (fun hc => ?_)
      · replace h := h.1 hc
        refine j_sub [1, 0] rfl ?_
        exact k_X7_readStatement_p49 h0 _ _ _ h
      · replace h := h.2 hc
        refine j_iconst (v := 0) dX7_readStatement_47 (by decide) ?_
        exact j_zret dX7_readStatement_48 rfl (Or.inl rfl) ⟨_, rfl, h⟩
    · replace h := h.2 hc
      refine j_aload_n 1 dX7_readStatement_31 rfl ?_
      refine j_iconst (v := 0) dX7_readStatement_32 (by decide) ?_
      refine j_invV (As := [.inl 0]) dX7_readStatement_33 msRX7_99 mbX7_emit rfl rfl (Nat.le_of_ble_eq_true rfl) (Nat.le_of_ble_eq_true rfl) (by omega) (h0 7 (by decide)) rfl rfl (k_X7_emit (d := d + 41) h0 h) ?_
      rintro _ zM10 zN11 ⟨rfl, h⟩
      refine j_goto (tgt := 49) dX7_readStatement_36 (by decide) ?_
      refine j_sub [1, 0] rfl ?_
      exact k_X7_readStatement_p49 h0 _ _ _ h
  · replace h := h.2 hc
    refine j_iconst (v := 0) dX7_readStatement_14 (by decide) ?_
    exact j_zret dX7_readStatement_15 rfl (Or.inl rfl) ⟨_, rfl, h⟩
def w_X7_split_p55 (post : am_I → am_N → Prop) (zk9 : Int32 → Int32 → Int32 → am_I → am_N → Prop) (l1 : Int32) (l3 : Int32) (l4 : Int32) (M : am_I) (N : am_N) : Prop :=
  zk9 l1 l4 (l3 + 1) M N
set_option maxRecDepth 10000 in
theorem k_X7_split_p55 {d : Nat} {dm : List am_C} (h0 : am_d0 dm) {post : am_I → am_N → Prop} {zk9 : Int32 → Int32 → Int32 → am_I → am_N → Prop} (zhk9 : ∀ (l1 : Int32) (l2 : Int32) (l3 : Int32) (M : am_I) (N : am_N), zk9 l1 l2 l3 M N → jg (d + 8) mX7_split dm 9 [(0, .inr (.inr (0, 0, 7))), (1, .inl l1), (2, .inl l2), (3, .inl l3)] [] M N (am_pv post)) (l1 : Int32) (l3 : Int32) (l4 : Int32) (M : am_I) (N : am_N) (h : w_X7_split_p55 post zk9 l1 l3 l4 M N) : jg (d + 8) mX7_split dm 55 [(0, .inr (.inr (0, 0, 7))), (1, .inl l1), (3, .inl l3), (4, .inl l4)] [] M N (am_pv post) := by
  refine j_iload 3 dX7_split_55 rfl ?_
  refine j_istore_n dX7_split_57 (by decide) rfl ?_
  refine j_iinc 3 dX7_split_58 rfl rfl (by decide) rfl ?_
  refine j_goto (tgt := 9) dX7_split_61 (by decide) ?_
  refine j_sub [2, 3, 1, 0] rfl ?_
  exact zhk9 _ _ _ _ _ h
def w_X7_split_p42 (post : am_I → am_N → Prop) (zk9 : Int32 → Int32 → Int32 → am_I → am_N → Prop) (l1 : Int32) (l3 : Int32) (l4 : Int32) (M : am_I) (N : am_N) : Prop :=
  w_X7_tokenFrom l3 l1 l4 M N (fun zr1 zM2 zN3 => w_X7_addToken zr1 l3 zM2 zN3 (fun zM4 zN5 => w_X7_split_p55 post zk9 l1 l3 l4 zM4 zN5))
set_option maxRecDepth 10000 in
theorem k_X7_split_p42 {d : Nat} {dm : List am_C} (h0 : am_d0 dm) {post : am_I → am_N → Prop} {zk9 : Int32 → Int32 → Int32 → am_I → am_N → Prop} (zhk9 : ∀ (l1 : Int32) (l2 : Int32) (l3 : Int32) (M : am_I) (N : am_N), zk9 l1 l2 l3 M N → jg (d + 8) mX7_split dm 9 [(0, .inr (.inr (0, 0, 7))), (1, .inl l1), (2, .inl l2), (3, .inl l3)] [] M N (am_pv post)) (l1 : Int32) (l3 : Int32) (l4 : Int32) (M : am_I) (N : am_N) (h : w_X7_split_p42 post zk9 l1 l3 l4 M N) : jg (d + 8) mX7_split dm 42 [(0, .inr (.inr (0, 0, 7))), (1, .inl l1), (3, .inl l3), (4, .inl l4)] [] M N (am_pv post) := by
  refine j_aload_n 0 dX7_split_42 rfl ?_
  refine j_aload_n 0 dX7_split_43 rfl ?_
  refine j_iload_n 2 dX7_split_44 rfl ?_
  refine j_iload_n 1 dX7_split_45 rfl ?_
  refine j_iload 3 dX7_split_46 rfl ?_
  refine j_invV (As := [.inl l3, .inl l1, .inl l4]) dX7_split_48 msRX7_65 mbX7_tokenFrom rfl rfl (Nat.le_of_ble_eq_true rfl) (Nat.le_of_ble_eq_true rfl) (by omega) (h0 7 (by decide)) rfl rfl (k_X7_tokenFrom (d := d + 0) h0 h) ?_
  rintro _ zM2 zN3 ⟨zr1, rfl, h⟩
  refine j_iload_n 2 dX7_split_51 rfl ?_
  refine j_invV (As := [.inl zr1, .inl l3]) dX7_split_52 msRX7_69 mbX7_addToken rfl rfl (Nat.le_of_ble_eq_true rfl) (Nat.le_of_ble_eq_true rfl) (by omega) (h0 7 (by decide)) rfl rfl (k_X7_addToken (d := d + 6) h0 h) ?_
  rintro _ zM4 zN5 ⟨rfl, h⟩
  refine j_sub [0, 1, 2, 3] rfl ?_
  exact k_X7_split_p55 h0 zhk9 _ _ _ _ _ h
def w_X7_split_p9_b (post : am_I → am_N → Prop) (zk9 : Int32 → Int32 → Int32 → am_I → am_N → Prop) (l1 : Int32) (l2 : Int32) (l3 : Int32) (M : am_I) (N : am_N) : Prop :=
  ((l1 ≤ l3 → w_X7_addToken 0 l1 M N (fun zM1 zN2 => post zM1 zN2)) ∧ (¬ l1 ≤ l3 → vp_in l3 500 ∧ w_X7_groupOf (M (0, 0, 8) l3.toNatClampNeg) M N (fun zr3 zM4 zN5 => ((zr3 = 0 → w_X7_split_p55 post zk9 l1 l3 zr3 zM4 zN5) ∧ (¬ zr3 = 0 → ((zr3 = 3 → w_X7_split_p42 post zk9 l1 l3 zr3 zM4 zN5) ∧ (¬ zr3 = 3 → ((zr3 = l2 → w_X7_split_p55 post zk9 l1 l3 zr3 zM4 zN5) ∧ (¬ zr3 = l2 → w_X7_split_p42 post zk9 l1 l3 zr3 zM4 zN5)))))))))
noncomputable def w_X7_split_p9 (post : am_I → am_N → Prop) (n : Nat) : Int32 → Int32 → Int32 → am_I → am_N → Prop :=
  Nat.rec (motive := fun _ => Int32 → Int32 → Int32 → am_I → am_N → Prop) (fun _ _ _ _ _ => False) (fun _ zk => w_X7_split_p9_b post zk) n
theorem w_X7_split_p9_s (post : am_I → am_N → Prop) (n : Nat) (l1 : Int32) (l2 : Int32) (l3 : Int32) (M : am_I) (N : am_N) : w_X7_split_p9 post (n + 1) l1 l2 l3 M N = w_X7_split_p9_b post (w_X7_split_p9 post n) l1 l2 l3 M N := rfl
set_option maxRecDepth 10000 in
theorem k_X7_split_p9 {d : Nat} {dm : List am_C} (h0 : am_d0 dm) {post : am_I → am_N → Prop} : ∀ (n : Nat) (l1 : Int32) (l2 : Int32) (l3 : Int32) (M : am_I) (N : am_N), w_X7_split_p9 post n l1 l2 l3 M N → jg (d + 8) mX7_split dm 9 [(0, .inr (.inr (0, 0, 7))), (1, .inl l1), (2, .inl l2), (3, .inl l3)] [] M N (am_pv post) := by
  intro n
  induction n with
  | zero => intro l1 l2 l3 M N h; exact h.elim
  | succ n zih =>
    intro l1 l2 l3 M N h
    replace h : w_X7_split_p9_b post (w_X7_split_p9 post n) l1 l2 l3 M N := h
    refine j_iload_n 3 dX7_split_9 rfl ?_
    refine j_iload_n 1 dX7_split_10 rfl ?_
    refine j_icmp_ge (tgt := 64) dX7_split_11 (by decide) (fun hc => ?_) (fun hc => ?_)
    · replace h := h.1 hc
      refine j_aload_n 0 dX7_split_64 rfl ?_
      refine j_iconst (v := 0) dX7_split_65 (by decide) ?_
      refine j_iload_n 1 dX7_split_66 rfl ?_
      refine j_invV (As := [.inl 0, .inl l1]) dX7_split_67 msRX7_69 mbX7_addToken rfl rfl (Nat.le_of_ble_eq_true rfl) (Nat.le_of_ble_eq_true rfl) (by omega) (h0 7 (by decide)) rfl rfl (k_X7_addToken (d := d + 6) h0 h) ?_
      rintro _ zM1 zN2 ⟨rfl, h⟩
      exact j_vret dX7_split_70 rfl ⟨rfl, h⟩
    · replace h := h.2 hc
      refine j_aload_n 0 dX7_split_14 rfl ?_
      refine j_getR (b := (0, 0, 8)) dX7_split_15 fsRX7_11 (h0 7 (by decide)) rfl rfl ?_
      refine j_iload_n 3 dX7_split_18 rfl ?_
      obtain ⟨hq, h⟩ := h
      refine j_iald dX7_split_19 (h0 8 (by decide)) rfl hq ?_
      refine j_invS (As := [.inl (M (0, 0, 8) l3.toNatClampNeg)]) dX7_split_20 msRX7_61 mbX7_groupOf rfl rfl (Nat.le_of_ble_eq_true rfl) (Nat.le_of_ble_eq_true rfl) (by omega) (k_X7_groupOf (d := d + 6)  h) ?_
      rintro _ zM4 zN5 ⟨zr3, rfl, h⟩
      refine j_istore dX7_split_23 (by decide) rfl ?_
      refine j_iload 0 dX7_split_25 rfl ?_
      refine j_if_eq (tgt := 55) dX7_split_27 (by decide) (fun hc => ?_) (fun hc => ?_)
      · replace h := h.1 hc
        refine j_sub [1, 2, 4, 0] rfl ?_
        exact k_X7_split_p55 h0 zih _ _ _ _ _ h
      · replace h := h.2 hc
        refine j_iload 0 dX7_split_30 rfl ?_
        refine j_iconst (v := 3) dX7_split_32 (by decide) ?_
        refine j_icmp_eq (tgt := 42) dX7_split_33 (by decide) (fun hc => ?_) (fun hc => ?_)
        · replace h := h.1 hc
          refine j_sub [1, 2, 4, 0] rfl ?_
          exact k_X7_split_p42 h0 zih _ _ _ _ _ h
        · replace h := h.2 hc
          refine j_iload 0 dX7_split_36 rfl ?_
          refine j_iload_n 3 dX7_split_38 rfl ?_
          refine j_icmp_eq (tgt := 55) dX7_split_39 (by decide) (fun hc => ?_) (fun hc => ?_)
          · replace h := h.1 hc
            refine j_sub [1, 2, 4, 0] rfl ?_
            exact k_X7_split_p55 h0 zih _ _ _ _ _ h
          · replace h := h.2 hc
            refine j_sub [1, 2, 4, 0] rfl ?_
            exact k_X7_split_p42 h0 zih _ _ _ _ _ h
def w_X7_split (a1 : Int32) (M : am_I) (N : am_N) (post : am_I → am_N → Prop) : Prop :=
  ∃ n, w_X7_split_p9 post n a1 0 0 (am_u M (0, 0, 7) 5 0) N
set_option maxRecDepth 10000 in
theorem k_X7_split {d : Nat} {dm : List am_C} (h0 : am_d0 dm) {a1 : Int32} {M : am_I} {N : am_N} {post : am_I → am_N → Prop} (h : w_X7_split a1 M N post) : jg (d + 8) mX7_split dm 0 [(0, .inr (.inr (0, 0, 7))), (1, .inl a1)] [] M N (am_pv post) := by
  refine j_aload_n 0 dX7_split_0 rfl ?_
  refine j_iconst (v := 0) dX7_split_1 (by decide) ?_
  refine j_putI dX7_split_2 fwRX7_58 (h0 7 (by decide)) rfl ?_
  refine j_iconst (v := 0) dX7_split_5 (by decide) ?_
  refine j_istore_n dX7_split_6 (by decide) rfl ?_
  refine j_iconst (v := 0) dX7_split_7 (by decide) ?_
  refine j_istore_n dX7_split_8 (by decide) rfl ?_
  refine j_sub [2, 3, 1, 0] rfl ?_
  obtain ⟨n, h⟩ := h
  exact k_X7_split_p9 h0 n _ _ _ _ _ h
def w_X7_read_p79 (post : Int32 → am_I → am_N → Prop) (M : am_I) (N : am_N) : Prop :=
  w_X7_placeHere M N (fun zr1 zM2 zN3 => post zr1 zM2 zN3)
set_option maxRecDepth 10000 in
theorem k_X7_read_p79 {d : Nat} {dm : List am_C} (h0 : am_d0 dm) {post : Int32 → am_I → am_N → Prop} (M : am_I) (N : am_N) (h : w_X7_read_p79 post  M N) : jg (d + 44) mX7_read dm 79 [(0, .inr (.inr (0, 0, 7)))] [] M N (am_pi post) := by
  refine j_aload_n 0 dX7_read_79 rfl ?_
  refine j_invV (As := []) dX7_read_80 msRX7_55 mbX7_placeHere rfl rfl (Nat.le_of_ble_eq_true rfl) (Nat.le_of_ble_eq_true rfl) (by omega) (h0 7 (by decide)) rfl rfl (k_X7_placeHere (d := d + 42) h0 h) ?_
  rintro _ zM2 zN3 ⟨zr1, rfl, h⟩
  exact j_iret dX7_read_83 rfl ⟨_, rfl, h⟩
def w_X7_read_p64 (post : Int32 → am_I → am_N → Prop) (l2 : Int32) (M : am_I) (N : am_N) : Prop :=
  ((l2 = 0 → w_X7_read_p79 post M N) ∧ (¬ l2 = 0 → w_X7_here M N (fun zr1 zM2 zN3 => ((¬ zr1 = 0 → w_X7_read_p79 post zM2 zN3) ∧ (zr1 = 0 → post (-1) zM2 zN3)))))
set_option maxRecDepth 10000 in
theorem k_X7_read_p64 {d : Nat} {dm : List am_C} (h0 : am_d0 dm) {post : Int32 → am_I → am_N → Prop} (l2 : Int32) (M : am_I) (N : am_N) (h : w_X7_read_p64 post l2 M N) : jg (d + 44) mX7_read dm 64 [(0, .inr (.inr (0, 0, 7))), (2, .inl l2)] [] M N (am_pi post) := by
  refine j_iload_n 1 dX7_read_64 rfl ?_
  refine j_if_eq (tgt := 79) dX7_read_65 (by decide) (fun hc => ?_) (fun hc => ?_)
  · replace h := h.1 hc
    refine j_sub [0] rfl ?_
    exact k_X7_read_p79 h0 _ _ h
  · replace h := h.2 hc
    refine j_aload_n 0 dX7_read_68 rfl ?_
    refine j_invV (As := []) dX7_read_69 msRX7_47 mbX7_here rfl rfl (Nat.le_of_ble_eq_true rfl) (Nat.le_of_ble_eq_true rfl) (by omega) (h0 7 (by decide)) rfl rfl (k_X7_here (d := d + 42) h0 h) ?_
    rintro _ zM2 zN3 ⟨zr1, rfl, h⟩
    refine j_if_ne (tgt := 79) dX7_read_72 (by decide) (fun hc => ?_) (fun hc => ?_)
    · replace h := h.1 hc
      refine j_sub [0] rfl ?_
      exact k_X7_read_p79 h0 _ _ h
    · replace h := h.2 hc
      refine j_iconst (v := (-1)) dX7_read_75 (by decide) ?_
      refine j_goto (tgt := 83) dX7_read_76 (by decide) ?_
      exact j_iret dX7_read_83 rfl ⟨_, rfl, h⟩
def w_X7_read_p36_b (post : Int32 → am_I → am_N → Prop) (zk36 : Int32 → Int32 → am_I → am_N → Prop) (l2 : Int32) (l3 : Int32) (M : am_I) (N : am_N) : Prop :=
  ((24 ≤ l3 → w_X7_read_p64 post l2 M N) ∧ (¬ 24 ≤ l3 → ((l2 = 0 → w_X7_read_p64 post l2 M N) ∧ (¬ l2 = 0 → w_X7_here M N (fun zr1 zM2 zN3 => ((zr1 = 0 → w_X7_read_p64 post l2 zM2 zN3) ∧ (¬ zr1 = 0 → w_X7_readStatement zM2 zN3 (fun zr4 zM5 zN6 => zk36 zr4 (l3 + 1) zM5 zN6))))))))
noncomputable def w_X7_read_p36 (post : Int32 → am_I → am_N → Prop) (n : Nat) : Int32 → Int32 → am_I → am_N → Prop :=
  Nat.rec (motive := fun _ => Int32 → Int32 → am_I → am_N → Prop) (fun _ _ _ _ => False) (fun _ zk => w_X7_read_p36_b post zk) n
theorem w_X7_read_p36_s (post : Int32 → am_I → am_N → Prop) (n : Nat) (l2 : Int32) (l3 : Int32) (M : am_I) (N : am_N) : w_X7_read_p36 post (n + 1) l2 l3 M N = w_X7_read_p36_b post (w_X7_read_p36 post n) l2 l3 M N := rfl
set_option maxRecDepth 10000 in
theorem k_X7_read_p36 {d : Nat} {dm : List am_C} (h0 : am_d0 dm) {post : Int32 → am_I → am_N → Prop} : ∀ (n : Nat) (l2 : Int32) (l3 : Int32) (M : am_I) (N : am_N), w_X7_read_p36 post n l2 l3 M N → jg (d + 44) mX7_read dm 36 [(0, .inr (.inr (0, 0, 7))), (2, .inl l2), (3, .inl l3)] [] M N (am_pi post) := by
  intro n
  induction n with
  | zero => intro l2 l3 M N h; exact h.elim
  | succ n zih =>
    intro l2 l3 M N h
    replace h : w_X7_read_p36_b post (w_X7_read_p36 post n) l2 l3 M N := h
    refine j_iload_n 2 dX7_read_36 rfl ?_
    refine j_bipush (v := 24) dX7_read_37 (by decide) ?_
    refine j_icmp_ge (tgt := 64) dX7_read_39 (by decide) (fun hc => ?_) (fun hc => ?_)
    · replace h := h.1 hc
      refine j_sub [0, 1] rfl ?_
      exact k_X7_read_p64 h0 _ _ _ h
    · replace h := h.2 hc
      refine j_iload_n 1 dX7_read_42 rfl ?_
      refine j_if_eq (tgt := 64) dX7_read_43 (by decide) (fun hc => ?_) (fun hc => ?_)
      · replace h := h.1 hc
        refine j_sub [0, 1] rfl ?_
        exact k_X7_read_p64 h0 _ _ _ h
      · replace h := h.2 hc
        refine j_aload_n 0 dX7_read_46 rfl ?_
        refine j_invV (As := []) dX7_read_47 msRX7_47 mbX7_here rfl rfl (Nat.le_of_ble_eq_true rfl) (Nat.le_of_ble_eq_true rfl) (by omega) (h0 7 (by decide)) rfl rfl (k_X7_here (d := d + 42) h0 h) ?_
        rintro _ zM2 zN3 ⟨zr1, rfl, h⟩
        refine j_if_eq (tgt := 64) dX7_read_50 (by decide) (fun hc => ?_) (fun hc => ?_)
        · replace h := h.1 hc
          refine j_sub [0, 1] rfl ?_
          exact k_X7_read_p64 h0 _ _ _ h
        · replace h := h.2 hc
          refine j_aload_n 0 dX7_read_53 rfl ?_
          refine j_invV (As := []) dX7_read_54 msRX7_51 mbX7_readStatement rfl rfl (Nat.le_of_ble_eq_true rfl) (Nat.le_of_ble_eq_true rfl) (by omega) (h0 7 (by decide)) rfl rfl (k_X7_readStatement (d := d + 0) h0 h) ?_
          rintro _ zM5 zN6 ⟨zr4, rfl, h⟩
          refine j_istore_n dX7_read_57 (by decide) rfl ?_
          refine j_iinc 2 dX7_read_58 rfl rfl (by decide) rfl ?_
          refine j_goto (tgt := 36) dX7_read_61 (by decide) ?_
          refine j_sub [2, 1, 0] rfl ?_
          exact zih _ _ _ _ h
def w_X7_read (a1 : Int32) (M : am_I) (N : am_N) (post : Int32 → am_I → am_N → Prop) : Prop :=
  w_J9_min_7cf53 a1 (M (0, 0, 7) 4) M N (fun zr1 zM2 zN3 => w_X7_split zr1 zM2 zN3 (fun zM4 zN5 => ∃ n, w_X7_read_p36 post n 1 0 (am_u (am_u (am_u (am_u zM4 (0, 0, 7) 4 0) (0, 0, 7) 6 0) (0, 0, 7) 7 0) (0, 0, 7) 8 0) zN5))
set_option maxRecDepth 10000 in
theorem k_X7_read {d : Nat} {dm : List am_C} (h0 : am_d0 dm) {a1 : Int32} {M : am_I} {N : am_N} {post : Int32 → am_I → am_N → Prop} (h : w_X7_read a1 M N post) : jg (d + 44) mX7_read dm 0 [(0, .inr (.inr (0, 0, 7))), (1, .inl a1)] [] M N (am_pi post) := by
  refine j_aload_n 0 dX7_read_0 rfl ?_
  refine j_iload_n 1 dX7_read_1 rfl ?_
  refine j_aload_n 0 dX7_read_2 rfl ?_
  refine j_getI dX7_read_3 fsRX7_24 (h0 7 (by decide)) rfl ?_
  refine j_invS (As := [.inl a1, .inl (M (0, 0, 7) 4)]) dX7_read_6 msRX7_28 mbJ9_min_7cf53 rfl rfl (Nat.le_of_ble_eq_true rfl) (Nat.le_of_ble_eq_true rfl) (by omega) (k_J9_min_7cf53 (d := d + 42)  h) ?_
  rintro _ zM2 zN3 ⟨zr1, rfl, h⟩
  refine j_invV (As := [.inl zr1]) dX7_read_9 msRX7_34 mbX7_split rfl rfl (Nat.le_of_ble_eq_true rfl) (Nat.le_of_ble_eq_true rfl) (by omega) (h0 7 (by decide)) rfl rfl (k_X7_split (d := d + 35) h0 h) ?_
  rintro _ zM4 zN5 ⟨rfl, h⟩
  refine j_aload_n 0 dX7_read_12 rfl ?_
  refine j_iconst (v := 0) dX7_read_13 (by decide) ?_
  refine j_putI dX7_read_14 fwRX7_24 (h0 7 (by decide)) rfl ?_
  refine j_aload_n 0 dX7_read_17 rfl ?_
  refine j_iconst (v := 0) dX7_read_18 (by decide) ?_
  refine j_putI dX7_read_19 fwRX7_38 (h0 7 (by decide)) rfl ?_
  refine j_aload_n 0 dX7_read_22 rfl ?_
  refine j_iconst (v := 0) dX7_read_23 (by decide) ?_
  refine j_putI dX7_read_24 fwRX7_41 (h0 7 (by decide)) rfl ?_
  refine j_aload_n 0 dX7_read_27 rfl ?_
  refine j_iconst (v := 0) dX7_read_28 (by decide) ?_
  refine j_putI dX7_read_29 fwRX7_44 (h0 7 (by decide)) rfl ?_
  refine j_iconst (v := 1) dX7_read_32 (by decide) ?_
  refine j_istore_n dX7_read_33 (by decide) rfl ?_
  refine j_iconst (v := 0) dX7_read_34 (by decide) ?_
  refine j_istore_n dX7_read_35 (by decide) rfl ?_
  refine j_sub [2, 1, 0] rfl ?_
  obtain ⟨n, h⟩ := h
  exact k_X7_read_p36 h0 n _ _ _ _ h
