/-! ===== the constructors, one instance each ===== -/
theorem dX9_init_0 : decode mX9_init.2.1 0 = .ok (.aload_n 0, 1) := by decide +kernel
theorem dX9_init_1 : decode mX9_init.2.1 1 = .ok (.invokespecial 1, 3) := by decide +kernel
theorem dX9_init_4 : decode mX9_init.2.1 4 = .ok (.aload_n 0, 1) := by decide +kernel
theorem dX9_init_5 : decode mX9_init.2.1 5 = .ok (.iload_n 1, 1) := by decide +kernel
theorem dX9_init_6 : decode mX9_init.2.1 6 = .ok (.putfield 7, 3) := by decide +kernel
theorem dX9_init_9 : decode mX9_init.2.1 9 = .ok (.aload_n 0, 1) := by decide +kernel
theorem dX9_init_10 : decode mX9_init.2.1 10 = .ok (.iload_n 2, 1) := by decide +kernel
theorem dX9_init_11 : decode mX9_init.2.1 11 = .ok (.putfield 13, 3) := by decide +kernel
theorem dX9_init_14 : decode mX9_init.2.1 14 = .ok (.aload_n 0, 1) := by decide +kernel
theorem dX9_init_15 : decode mX9_init.2.1 15 = .ok (.iload_n 1, 1) := by decide +kernel
theorem dX9_init_16 : decode mX9_init.2.1 16 = .ok (.iload_n 2, 1) := by decide +kernel
theorem dX9_init_17 : decode mX9_init.2.1 17 = .ok (.imul, 1) := by decide +kernel
theorem dX9_init_18 : decode mX9_init.2.1 18 = .ok (.newarray .int, 2) := by decide +kernel
theorem dX9_init_20 : decode mX9_init.2.1 20 = .ok (.putfield 16, 3) := by decide +kernel
theorem dX9_init_23 : decode mX9_init.2.1 23 = .ok (.aload_n 0, 1) := by decide +kernel
theorem dX9_init_24 : decode mX9_init.2.1 24 = .ok (.iconst 0, 1) := by decide +kernel
theorem dX9_init_25 : decode mX9_init.2.1 25 = .ok (.putfield 20, 3) := by decide +kernel
theorem dX9_init_28 : decode mX9_init.2.1 28 = .ok (.return_, 1) := by decide +kernel
set_option maxRecDepth 100000 in
theorem mbX9_init : am_MB mX9_init 2 := ⟨by decide, am_in1 42 rfl rfl, am_in1 3 rfl rfl, ⟨by decide, by decide, by decide +kernel⟩, by decide⟩
set_option maxRecDepth 100000 in
theorem fnX9_7 : am_FN RX9 7 8 2 0 := ⟨TX9, 4, tyX9, .int, cb8, rfl, by decide, by decide +kernel, fun _ => rfl, fun w => absurd w (by decide), am_in1 46 rfl rfl⟩
set_option maxRecDepth 100000 in
theorem fnX9_13 : am_FN RX9 13 8 1 0 := ⟨TX9, 4, tyX9, .int, cb8, rfl, by decide, by decide +kernel, fun _ => rfl, fun w => absurd w (by decide), am_in1 45 rfl rfl⟩
set_option maxRecDepth 100000 in
theorem fnX9_16 : am_FN RX9 16 8 0 2 := ⟨TX9, 4, tyX9, .array .int, cb8, rfl, by decide, by decide +kernel, fun w => absurd w (by decide), fun _ _ => ⟨rfl, rfl⟩, am_in1 44 rfl rfl⟩
set_option maxRecDepth 100000 in
theorem fnX9_20 : am_FN RX9 20 8 3 0 := ⟨TX9, 4, tyX9, .int, cb8, rfl, by decide, by decide +kernel, fun _ => rfl, fun w => absurd w (by decide), am_in1 47 rfl rfl⟩
theorem dX0_init_0 : decode mX0_init.2.1 0 = .ok (.aload_n 0, 1) := by decide +kernel
theorem dX0_init_1 : decode mX0_init.2.1 1 = .ok (.invokespecial 3, 3) := by decide +kernel
theorem dX0_init_4 : decode mX0_init.2.1 4 = .ok (.aload_n 0, 1) := by decide +kernel
theorem dX0_init_5 : decode mX0_init.2.1 5 = .ok (.new 9, 3) := by decide +kernel
theorem dX0_init_8 : decode mX0_init.2.1 8 = .ok (.dup, 1) := by decide +kernel
theorem dX0_init_9 : decode mX0_init.2.1 9 = .ok (.sipush 400, 3) := by decide +kernel
theorem dX0_init_12 : decode mX0_init.2.1 12 = .ok (.iconst 5, 1) := by decide +kernel
theorem dX0_init_13 : decode mX0_init.2.1 13 = .ok (.invokespecial 11, 3) := by decide +kernel
theorem dX0_init_16 : decode mX0_init.2.1 16 = .ok (.putfield 14, 3) := by decide +kernel
theorem dX0_init_19 : decode mX0_init.2.1 19 = .ok (.aload_n 0, 1) := by decide +kernel
theorem dX0_init_20 : decode mX0_init.2.1 20 = .ok (.new 9, 3) := by decide +kernel
theorem dX0_init_23 : decode mX0_init.2.1 23 = .ok (.dup, 1) := by decide +kernel
theorem dX0_init_24 : decode mX0_init.2.1 24 = .ok (.bipush 30, 2) := by decide +kernel
theorem dX0_init_26 : decode mX0_init.2.1 26 = .ok (.iconst 3, 1) := by decide +kernel
theorem dX0_init_27 : decode mX0_init.2.1 27 = .ok (.invokespecial 11, 3) := by decide +kernel
theorem dX0_init_30 : decode mX0_init.2.1 30 = .ok (.putfield 20, 3) := by decide +kernel
theorem dX0_init_33 : decode mX0_init.2.1 33 = .ok (.aload_n 0, 1) := by decide +kernel
theorem dX0_init_34 : decode mX0_init.2.1 34 = .ok (.new 9, 3) := by decide +kernel
theorem dX0_init_37 : decode mX0_init.2.1 37 = .ok (.dup, 1) := by decide +kernel
theorem dX0_init_38 : decode mX0_init.2.1 38 = .ok (.bipush 8, 2) := by decide +kernel
theorem dX0_init_40 : decode mX0_init.2.1 40 = .ok (.iconst 5, 1) := by decide +kernel
theorem dX0_init_41 : decode mX0_init.2.1 41 = .ok (.invokespecial 11, 3) := by decide +kernel
theorem dX0_init_44 : decode mX0_init.2.1 44 = .ok (.putfield 23, 3) := by decide +kernel
theorem dX0_init_47 : decode mX0_init.2.1 47 = .ok (.aload_n 0, 1) := by decide +kernel
theorem dX0_init_48 : decode mX0_init.2.1 48 = .ok (.new 9, 3) := by decide +kernel
theorem dX0_init_51 : decode mX0_init.2.1 51 = .ok (.dup, 1) := by decide +kernel
theorem dX0_init_52 : decode mX0_init.2.1 52 = .ok (.bipush 60, 2) := by decide +kernel
theorem dX0_init_54 : decode mX0_init.2.1 54 = .ok (.iconst 3, 1) := by decide +kernel
theorem dX0_init_55 : decode mX0_init.2.1 55 = .ok (.invokespecial 11, 3) := by decide +kernel
theorem dX0_init_58 : decode mX0_init.2.1 58 = .ok (.putfield 26, 3) := by decide +kernel
theorem dX0_init_61 : decode mX0_init.2.1 61 = .ok (.aload_n 0, 1) := by decide +kernel
theorem dX0_init_62 : decode mX0_init.2.1 62 = .ok (.new 9, 3) := by decide +kernel
theorem dX0_init_65 : decode mX0_init.2.1 65 = .ok (.dup, 1) := by decide +kernel
theorem dX0_init_66 : decode mX0_init.2.1 66 = .ok (.iconst 5, 1) := by decide +kernel
theorem dX0_init_67 : decode mX0_init.2.1 67 = .ok (.bipush 6, 2) := by decide +kernel
theorem dX0_init_69 : decode mX0_init.2.1 69 = .ok (.invokespecial 11, 3) := by decide +kernel
theorem dX0_init_72 : decode mX0_init.2.1 72 = .ok (.putfield 29, 3) := by decide +kernel
theorem dX0_init_75 : decode mX0_init.2.1 75 = .ok (.aload_n 0, 1) := by decide +kernel
theorem dX0_init_76 : decode mX0_init.2.1 76 = .ok (.new 9, 3) := by decide +kernel
theorem dX0_init_79 : decode mX0_init.2.1 79 = .ok (.dup, 1) := by decide +kernel
theorem dX0_init_80 : decode mX0_init.2.1 80 = .ok (.bipush 40, 2) := by decide +kernel
theorem dX0_init_82 : decode mX0_init.2.1 82 = .ok (.iconst 1, 1) := by decide +kernel
theorem dX0_init_83 : decode mX0_init.2.1 83 = .ok (.invokespecial 11, 3) := by decide +kernel
theorem dX0_init_86 : decode mX0_init.2.1 86 = .ok (.putfield 32, 3) := by decide +kernel
theorem dX0_init_89 : decode mX0_init.2.1 89 = .ok (.return_, 1) := by decide +kernel
set_option maxRecDepth 100000 in
theorem mbX0_init : am_MB mX0_init 0 := ⟨by decide, am_in1 36 rfl rfl, am_in1 2 rfl rfl, ⟨by decide, by decide, by decide +kernel⟩, by decide⟩
set_option maxRecDepth 100000 in
theorem fnX0_14 : am_FN RX0 14 0 0 2 := ⟨TX0, 6, tyX0, .object "PloughField$Table", cb0, rfl, by decide, by decide +kernel, fun w => absurd w (by decide), fun _ _ => ⟨rfl, rfl⟩, am_in1 62 rfl rfl⟩
set_option maxRecDepth 100000 in
theorem fnX0_20 : am_FN RX0 20 0 1 2 := ⟨TX0, 6, tyX0, .object "PloughField$Table", cb0, rfl, by decide, by decide +kernel, fun w => absurd w (by decide), fun _ _ => ⟨rfl, rfl⟩, am_in1 65 rfl rfl⟩
set_option maxRecDepth 100000 in
theorem fnX0_23 : am_FN RX0 23 0 2 2 := ⟨TX0, 6, tyX0, .object "PloughField$Table", cb0, rfl, by decide, by decide +kernel, fun w => absurd w (by decide), fun _ _ => ⟨rfl, rfl⟩, am_in1 67 rfl rfl⟩
set_option maxRecDepth 100000 in
theorem fnX0_26 : am_FN RX0 26 0 3 2 := ⟨TX0, 6, tyX0, .object "PloughField$Table", cb0, rfl, by decide, by decide +kernel, fun w => absurd w (by decide), fun _ _ => ⟨rfl, rfl⟩, am_in1 71 rfl rfl⟩
set_option maxRecDepth 100000 in
theorem fnX0_29 : am_FN RX0 29 0 4 2 := ⟨TX0, 6, tyX0, .object "PloughField$Table", cb0, rfl, by decide, by decide +kernel, fun w => absurd w (by decide), fun _ _ => ⟨rfl, rfl⟩, am_in1 74 rfl rfl⟩
set_option maxRecDepth 100000 in
theorem fnX0_32 : am_FN RX0 32 0 5 2 := ⟨TX0, 6, tyX0, .object "PloughField$Table", cb0, rfl, by decide, by decide +kernel, fun w => absurd w (by decide), fun _ _ => ⟨rfl, rfl⟩, am_in1 77 rfl rfl⟩
theorem dX5_init_0 : decode mX5_init.2.1 0 = .ok (.aload_n 0, 1) := by decide +kernel
theorem dX5_init_1 : decode mX5_init.2.1 1 = .ok (.invokespecial 3, 3) := by decide +kernel
theorem dX5_init_4 : decode mX5_init.2.1 4 = .ok (.aload_n 0, 1) := by decide +kernel
theorem dX5_init_5 : decode mX5_init.2.1 5 = .ok (.sipush 512, 3) := by decide +kernel
theorem dX5_init_8 : decode mX5_init.2.1 8 = .ok (.newarray .int, 2) := by decide +kernel
theorem dX5_init_10 : decode mX5_init.2.1 10 = .ok (.putfield 9, 3) := by decide +kernel
theorem dX5_init_13 : decode mX5_init.2.1 13 = .ok (.aload_n 0, 1) := by decide +kernel
theorem dX5_init_14 : decode mX5_init.2.1 14 = .ok (.sipush 512, 3) := by decide +kernel
theorem dX5_init_17 : decode mX5_init.2.1 17 = .ok (.newarray .int, 2) := by decide +kernel
theorem dX5_init_19 : decode mX5_init.2.1 19 = .ok (.putfield 15, 3) := by decide +kernel
theorem dX5_init_22 : decode mX5_init.2.1 22 = .ok (.aload_n 0, 1) := by decide +kernel
theorem dX5_init_23 : decode mX5_init.2.1 23 = .ok (.bipush 64, 2) := by decide +kernel
theorem dX5_init_25 : decode mX5_init.2.1 25 = .ok (.newarray .int, 2) := by decide +kernel
theorem dX5_init_27 : decode mX5_init.2.1 27 = .ok (.putfield 18, 3) := by decide +kernel
theorem dX5_init_30 : decode mX5_init.2.1 30 = .ok (.aload_n 0, 1) := by decide +kernel
theorem dX5_init_31 : decode mX5_init.2.1 31 = .ok (.bipush 64, 2) := by decide +kernel
theorem dX5_init_33 : decode mX5_init.2.1 33 = .ok (.newarray .int, 2) := by decide +kernel
theorem dX5_init_35 : decode mX5_init.2.1 35 = .ok (.putfield 21, 3) := by decide +kernel
theorem dX5_init_38 : decode mX5_init.2.1 38 = .ok (.return_, 1) := by decide +kernel
set_option maxRecDepth 100000 in
theorem mbX5_init : am_MB mX5_init 0 := ⟨by decide, am_in1 97 rfl rfl, am_in1 4 rfl rfl, ⟨by decide, by decide, by decide +kernel⟩, by decide⟩
set_option maxRecDepth 100000 in
theorem fnX5_9 : am_FN RX5 9 4 0 2 := ⟨TX5, 5, tyX5, .array .int, cb4, rfl, by decide, by decide +kernel, fun w => absurd w (by decide), fun _ _ => ⟨rfl, rfl⟩, am_in1 99 rfl rfl⟩
set_option maxRecDepth 100000 in
theorem fnX5_15 : am_FN RX5 15 4 1 2 := ⟨TX5, 5, tyX5, .array .int, cb4, rfl, by decide, by decide +kernel, fun w => absurd w (by decide), fun _ _ => ⟨rfl, rfl⟩, am_in1 100 rfl rfl⟩
set_option maxRecDepth 100000 in
theorem fnX5_18 : am_FN RX5 18 4 2 2 := ⟨TX5, 5, tyX5, .array .int, cb4, rfl, by decide, by decide +kernel, fun w => absurd w (by decide), fun _ _ => ⟨rfl, rfl⟩, am_in1 101 rfl rfl⟩
set_option maxRecDepth 100000 in
theorem fnX5_21 : am_FN RX5 21 4 3 2 := ⟨TX5, 5, tyX5, .array .int, cb4, rfl, by decide, by decide +kernel, fun w => absurd w (by decide), fun _ _ => ⟨rfl, rfl⟩, am_in1 102 rfl rfl⟩
theorem dX2_init_0 : decode mX2_init.2.1 0 = .ok (.aload_n 0, 1) := by decide +kernel
theorem dX2_init_1 : decode mX2_init.2.1 1 = .ok (.invokespecial 3, 3) := by decide +kernel
theorem dX2_init_4 : decode mX2_init.2.1 4 = .ok (.aload_n 0, 1) := by decide +kernel
theorem dX2_init_5 : decode mX2_init.2.1 5 = .ok (.bipush 64, 2) := by decide +kernel
theorem dX2_init_7 : decode mX2_init.2.1 7 = .ok (.newarray .int, 2) := by decide +kernel
theorem dX2_init_9 : decode mX2_init.2.1 9 = .ok (.putfield 9, 3) := by decide +kernel
theorem dX2_init_12 : decode mX2_init.2.1 12 = .ok (.aload_n 0, 1) := by decide +kernel
theorem dX2_init_13 : decode mX2_init.2.1 13 = .ok (.bipush 64, 2) := by decide +kernel
theorem dX2_init_15 : decode mX2_init.2.1 15 = .ok (.newarray .int, 2) := by decide +kernel
theorem dX2_init_17 : decode mX2_init.2.1 17 = .ok (.putfield 15, 3) := by decide +kernel
theorem dX2_init_20 : decode mX2_init.2.1 20 = .ok (.aload_n 0, 1) := by decide +kernel
theorem dX2_init_21 : decode mX2_init.2.1 21 = .ok (.bipush 64, 2) := by decide +kernel
theorem dX2_init_23 : decode mX2_init.2.1 23 = .ok (.newarray .int, 2) := by decide +kernel
theorem dX2_init_25 : decode mX2_init.2.1 25 = .ok (.putfield 18, 3) := by decide +kernel
theorem dX2_init_28 : decode mX2_init.2.1 28 = .ok (.aload_n 0, 1) := by decide +kernel
theorem dX2_init_29 : decode mX2_init.2.1 29 = .ok (.bipush 64, 2) := by decide +kernel
theorem dX2_init_31 : decode mX2_init.2.1 31 = .ok (.newarray .int, 2) := by decide +kernel
theorem dX2_init_33 : decode mX2_init.2.1 33 = .ok (.putfield 21, 3) := by decide +kernel
theorem dX2_init_36 : decode mX2_init.2.1 36 = .ok (.return_, 1) := by decide +kernel
set_option maxRecDepth 100000 in
theorem mbX2_init : am_MB mX2_init 0 := ⟨by decide, am_in1 125 rfl rfl, am_in1 6 rfl rfl, ⟨by decide, by decide, by decide +kernel⟩, by decide⟩
set_option maxRecDepth 100000 in
theorem fnX2_9 : am_FN RX2 9 2 0 2 := ⟨TX2, 6, tyX2, .array .int, cb2, rfl, by decide, by decide +kernel, fun w => absurd w (by decide), fun _ _ => ⟨rfl, rfl⟩, am_in1 127 rfl rfl⟩
set_option maxRecDepth 100000 in
theorem fnX2_15 : am_FN RX2 15 2 1 2 := ⟨TX2, 6, tyX2, .array .int, cb2, rfl, by decide, by decide +kernel, fun w => absurd w (by decide), fun _ _ => ⟨rfl, rfl⟩, am_in1 129 rfl rfl⟩
set_option maxRecDepth 100000 in
theorem fnX2_18 : am_FN RX2 18 2 2 2 := ⟨TX2, 6, tyX2, .array .int, cb2, rfl, by decide, by decide +kernel, fun w => absurd w (by decide), fun _ _ => ⟨rfl, rfl⟩, am_in1 132 rfl rfl⟩
set_option maxRecDepth 100000 in
theorem fnX2_21 : am_FN RX2 21 2 3 2 := ⟨TX2, 6, tyX2, .array .int, cb2, rfl, by decide, by decide +kernel, fun w => absurd w (by decide), fun _ _ => ⟨rfl, rfl⟩, am_in1 135 rfl rfl⟩
theorem dX6_init_0 : decode mX6_init.2.1 0 = .ok (.aload_n 0, 1) := by decide +kernel
theorem dX6_init_1 : decode mX6_init.2.1 1 = .ok (.invokespecial 3, 3) := by decide +kernel
theorem dX6_init_4 : decode mX6_init.2.1 4 = .ok (.aload_n 0, 1) := by decide +kernel
theorem dX6_init_5 : decode mX6_init.2.1 5 = .ok (.bipush 64, 2) := by decide +kernel
theorem dX6_init_7 : decode mX6_init.2.1 7 = .ok (.newarray .int, 2) := by decide +kernel
theorem dX6_init_9 : decode mX6_init.2.1 9 = .ok (.putfield 9, 3) := by decide +kernel
theorem dX6_init_12 : decode mX6_init.2.1 12 = .ok (.aload_n 0, 1) := by decide +kernel
theorem dX6_init_13 : decode mX6_init.2.1 13 = .ok (.bipush 64, 2) := by decide +kernel
theorem dX6_init_15 : decode mX6_init.2.1 15 = .ok (.newarray .int, 2) := by decide +kernel
theorem dX6_init_17 : decode mX6_init.2.1 17 = .ok (.putfield 15, 3) := by decide +kernel
theorem dX6_init_20 : decode mX6_init.2.1 20 = .ok (.aload_n 0, 1) := by decide +kernel
theorem dX6_init_21 : decode mX6_init.2.1 21 = .ok (.bipush 64, 2) := by decide +kernel
theorem dX6_init_23 : decode mX6_init.2.1 23 = .ok (.newarray .int, 2) := by decide +kernel
theorem dX6_init_25 : decode mX6_init.2.1 25 = .ok (.putfield 18, 3) := by decide +kernel
theorem dX6_init_28 : decode mX6_init.2.1 28 = .ok (.aload_n 0, 1) := by decide +kernel
theorem dX6_init_29 : decode mX6_init.2.1 29 = .ok (.bipush 64, 2) := by decide +kernel
theorem dX6_init_31 : decode mX6_init.2.1 31 = .ok (.newarray .int, 2) := by decide +kernel
theorem dX6_init_33 : decode mX6_init.2.1 33 = .ok (.putfield 21, 3) := by decide +kernel
theorem dX6_init_36 : decode mX6_init.2.1 36 = .ok (.aload_n 0, 1) := by decide +kernel
theorem dX6_init_37 : decode mX6_init.2.1 37 = .ok (.bipush 64, 2) := by decide +kernel
theorem dX6_init_39 : decode mX6_init.2.1 39 = .ok (.newarray .int, 2) := by decide +kernel
theorem dX6_init_41 : decode mX6_init.2.1 41 = .ok (.putfield 24, 3) := by decide +kernel
theorem dX6_init_44 : decode mX6_init.2.1 44 = .ok (.aload_n 0, 1) := by decide +kernel
theorem dX6_init_45 : decode mX6_init.2.1 45 = .ok (.sipush 320, 3) := by decide +kernel
theorem dX6_init_48 : decode mX6_init.2.1 48 = .ok (.newarray .int, 2) := by decide +kernel
theorem dX6_init_50 : decode mX6_init.2.1 50 = .ok (.putfield 27, 3) := by decide +kernel
theorem dX6_init_53 : decode mX6_init.2.1 53 = .ok (.aload_n 0, 1) := by decide +kernel
theorem dX6_init_54 : decode mX6_init.2.1 54 = .ok (.iconst 5, 1) := by decide +kernel
theorem dX6_init_55 : decode mX6_init.2.1 55 = .ok (.newarray .long, 2) := by decide +kernel
theorem dX6_init_57 : decode mX6_init.2.1 57 = .ok (.putfield 30, 3) := by decide +kernel
theorem dX6_init_60 : decode mX6_init.2.1 60 = .ok (.aload_n 0, 1) := by decide +kernel
theorem dX6_init_61 : decode mX6_init.2.1 61 = .ok (.aload_n 1, 1) := by decide +kernel
theorem dX6_init_62 : decode mX6_init.2.1 62 = .ok (.putfield 34, 3) := by decide +kernel
theorem dX6_init_65 : decode mX6_init.2.1 65 = .ok (.return_, 1) := by decide +kernel
set_option maxRecDepth 100000 in
theorem mbX6_init : am_MB mX6_init 1 := ⟨by decide, am_in1 157 rfl rfl, am_in1 7 rfl rfl, ⟨by decide, by decide, by decide +kernel⟩, by decide⟩
set_option maxRecDepth 100000 in
theorem fnX6_9 : am_FN RX6 9 5 1 2 := ⟨TX6, 11, tyX6, .array .int, cb5, rfl, by decide, by decide +kernel, fun w => absurd w (by decide), fun _ _ => ⟨rfl, rfl⟩, am_in1 160 rfl rfl⟩
set_option maxRecDepth 100000 in
theorem fnX6_15 : am_FN RX6 15 5 2 2 := ⟨TX6, 11, tyX6, .array .int, cb5, rfl, by decide, by decide +kernel, fun w => absurd w (by decide), fun _ _ => ⟨rfl, rfl⟩, am_in1 162 rfl rfl⟩
set_option maxRecDepth 100000 in
theorem fnX6_18 : am_FN RX6 18 5 3 2 := ⟨TX6, 11, tyX6, .array .int, cb5, rfl, by decide, by decide +kernel, fun w => absurd w (by decide), fun _ _ => ⟨rfl, rfl⟩, am_in1 164 rfl rfl⟩
set_option maxRecDepth 100000 in
theorem fnX6_21 : am_FN RX6 21 5 4 2 := ⟨TX6, 11, tyX6, .array .int, cb5, rfl, by decide, by decide +kernel, fun w => absurd w (by decide), fun _ _ => ⟨rfl, rfl⟩, am_in1 166 rfl rfl⟩
set_option maxRecDepth 100000 in
theorem fnX6_24 : am_FN RX6 24 5 5 2 := ⟨TX6, 11, tyX6, .array .int, cb5, rfl, by decide, by decide +kernel, fun w => absurd w (by decide), fun _ _ => ⟨rfl, rfl⟩, am_in1 167 rfl rfl⟩
set_option maxRecDepth 100000 in
theorem fnX6_27 : am_FN RX6 27 5 6 2 := ⟨TX6, 11, tyX6, .array .int, cb5, rfl, by decide, by decide +kernel, fun w => absurd w (by decide), fun _ _ => ⟨rfl, rfl⟩, am_in1 169 rfl rfl⟩
set_option maxRecDepth 100000 in
theorem fnX6_30 : am_FN RX6 30 5 7 2 := ⟨TX6, 11, tyX6, .array .long, cb5, rfl, by decide, by decide +kernel, fun w => absurd w (by decide), fun _ _ => ⟨rfl, rfl⟩, am_in1 170 rfl rfl⟩
set_option maxRecDepth 100000 in
theorem fnX6_34 : am_FN RX6 34 5 0 2 := ⟨TX6, 11, tyX6, .object "PloughField$Book", cb5, rfl, by decide, by decide +kernel, fun w => absurd w (by decide), fun _ _ => ⟨rfl, rfl⟩, am_in1 159 rfl rfl⟩
theorem dX1_init_0 : decode mX1_init.2.1 0 = .ok (.aload_n 0, 1) := by decide +kernel
theorem dX1_init_1 : decode mX1_init.2.1 1 = .ok (.invokespecial 3, 3) := by decide +kernel
theorem dX1_init_4 : decode mX1_init.2.1 4 = .ok (.aload_n 0, 1) := by decide +kernel
theorem dX1_init_5 : decode mX1_init.2.1 5 = .ok (.bipush 8, 2) := by decide +kernel
theorem dX1_init_7 : decode mX1_init.2.1 7 = .ok (.newarray .int, 2) := by decide +kernel
theorem dX1_init_9 : decode mX1_init.2.1 9 = .ok (.putfield 9, 3) := by decide +kernel
theorem dX1_init_12 : decode mX1_init.2.1 12 = .ok (.aload_n 0, 1) := by decide +kernel
theorem dX1_init_13 : decode mX1_init.2.1 13 = .ok (.bipush 8, 2) := by decide +kernel
theorem dX1_init_15 : decode mX1_init.2.1 15 = .ok (.newarray .int, 2) := by decide +kernel
theorem dX1_init_17 : decode mX1_init.2.1 17 = .ok (.putfield 15, 3) := by decide +kernel
theorem dX1_init_20 : decode mX1_init.2.1 20 = .ok (.aload_n 0, 1) := by decide +kernel
theorem dX1_init_21 : decode mX1_init.2.1 21 = .ok (.bipush 8, 2) := by decide +kernel
theorem dX1_init_23 : decode mX1_init.2.1 23 = .ok (.newarray .int, 2) := by decide +kernel
theorem dX1_init_25 : decode mX1_init.2.1 25 = .ok (.putfield 18, 3) := by decide +kernel
theorem dX1_init_28 : decode mX1_init.2.1 28 = .ok (.aload_n 0, 1) := by decide +kernel
theorem dX1_init_29 : decode mX1_init.2.1 29 = .ok (.bipush 8, 2) := by decide +kernel
theorem dX1_init_31 : decode mX1_init.2.1 31 = .ok (.newarray .int, 2) := by decide +kernel
theorem dX1_init_33 : decode mX1_init.2.1 33 = .ok (.putfield 21, 3) := by decide +kernel
theorem dX1_init_36 : decode mX1_init.2.1 36 = .ok (.aload_n 0, 1) := by decide +kernel
theorem dX1_init_37 : decode mX1_init.2.1 37 = .ok (.bipush 8, 2) := by decide +kernel
theorem dX1_init_39 : decode mX1_init.2.1 39 = .ok (.newarray .long, 2) := by decide +kernel
theorem dX1_init_41 : decode mX1_init.2.1 41 = .ok (.putfield 24, 3) := by decide +kernel
theorem dX1_init_44 : decode mX1_init.2.1 44 = .ok (.aload_n 0, 1) := by decide +kernel
theorem dX1_init_45 : decode mX1_init.2.1 45 = .ok (.aload_n 1, 1) := by decide +kernel
theorem dX1_init_46 : decode mX1_init.2.1 46 = .ok (.putfield 28, 3) := by decide +kernel
theorem dX1_init_49 : decode mX1_init.2.1 49 = .ok (.return_, 1) := by decide +kernel
set_option maxRecDepth 100000 in
theorem mbX1_init : am_MB mX1_init 1 := ⟨by decide, am_in1 204 rfl rfl, am_in1 8 rfl rfl, ⟨by decide, by decide, by decide +kernel⟩, by decide⟩
set_option maxRecDepth 100000 in
theorem fnX1_9 : am_FN RX1 9 1 1 2 := ⟨TX1, 6, tyX1, .array .int, cb1, rfl, by decide, by decide +kernel, fun w => absurd w (by decide), fun _ _ => ⟨rfl, rfl⟩, am_in1 207 rfl rfl⟩
set_option maxRecDepth 100000 in
theorem fnX1_15 : am_FN RX1 15 1 2 2 := ⟨TX1, 6, tyX1, .array .int, cb1, rfl, by decide, by decide +kernel, fun w => absurd w (by decide), fun _ _ => ⟨rfl, rfl⟩, am_in1 210 rfl rfl⟩
set_option maxRecDepth 100000 in
theorem fnX1_18 : am_FN RX1 18 1 3 2 := ⟨TX1, 6, tyX1, .array .int, cb1, rfl, by decide, by decide +kernel, fun w => absurd w (by decide), fun _ _ => ⟨rfl, rfl⟩, am_in1 212 rfl rfl⟩
set_option maxRecDepth 100000 in
theorem fnX1_21 : am_FN RX1 21 1 4 2 := ⟨TX1, 6, tyX1, .array .int, cb1, rfl, by decide, by decide +kernel, fun w => absurd w (by decide), fun _ _ => ⟨rfl, rfl⟩, am_in1 214 rfl rfl⟩
set_option maxRecDepth 100000 in
theorem fnX1_24 : am_FN RX1 24 1 5 2 := ⟨TX1, 6, tyX1, .array .long, cb1, rfl, by decide, by decide +kernel, fun w => absurd w (by decide), fun _ _ => ⟨rfl, rfl⟩, am_in1 216 rfl rfl⟩
set_option maxRecDepth 100000 in
theorem fnX1_28 : am_FN RX1 28 1 0 2 := ⟨TX1, 6, tyX1, .object "PloughField$Book", cb1, rfl, by decide, by decide +kernel, fun w => absurd w (by decide), fun _ _ => ⟨rfl, rfl⟩, am_in1 206 rfl rfl⟩
theorem dX10_init_0 : decode mX10_init.2.1 0 = .ok (.aload_n 0, 1) := by decide +kernel
theorem dX10_init_1 : decode mX10_init.2.1 1 = .ok (.invokespecial 3, 3) := by decide +kernel
theorem dX10_init_4 : decode mX10_init.2.1 4 = .ok (.aload_n 0, 1) := by decide +kernel
theorem dX10_init_5 : decode mX10_init.2.1 5 = .ok (.bipush 60, 2) := by decide +kernel
theorem dX10_init_7 : decode mX10_init.2.1 7 = .ok (.newarray .int, 2) := by decide +kernel
theorem dX10_init_9 : decode mX10_init.2.1 9 = .ok (.putfield 9, 3) := by decide +kernel
theorem dX10_init_12 : decode mX10_init.2.1 12 = .ok (.aload_n 0, 1) := by decide +kernel
theorem dX10_init_13 : decode mX10_init.2.1 13 = .ok (.bipush 60, 2) := by decide +kernel
theorem dX10_init_15 : decode mX10_init.2.1 15 = .ok (.newarray .int, 2) := by decide +kernel
theorem dX10_init_17 : decode mX10_init.2.1 17 = .ok (.putfield 15, 3) := by decide +kernel
theorem dX10_init_20 : decode mX10_init.2.1 20 = .ok (.aload_n 0, 1) := by decide +kernel
theorem dX10_init_21 : decode mX10_init.2.1 21 = .ok (.iconst 4, 1) := by decide +kernel
theorem dX10_init_22 : decode mX10_init.2.1 22 = .ok (.newarray .int, 2) := by decide +kernel
theorem dX10_init_24 : decode mX10_init.2.1 24 = .ok (.putfield 18, 3) := by decide +kernel
theorem dX10_init_27 : decode mX10_init.2.1 27 = .ok (.aload_n 0, 1) := by decide +kernel
theorem dX10_init_28 : decode mX10_init.2.1 28 = .ok (.aload_n 1, 1) := by decide +kernel
theorem dX10_init_29 : decode mX10_init.2.1 29 = .ok (.putfield 21, 3) := by decide +kernel
theorem dX10_init_32 : decode mX10_init.2.1 32 = .ok (.aload_n 0, 1) := by decide +kernel
theorem dX10_init_33 : decode mX10_init.2.1 33 = .ok (.aload_n 2, 1) := by decide +kernel
theorem dX10_init_34 : decode mX10_init.2.1 34 = .ok (.putfield 25, 3) := by decide +kernel
theorem dX10_init_37 : decode mX10_init.2.1 37 = .ok (.aload_n 0, 1) := by decide +kernel
theorem dX10_init_38 : decode mX10_init.2.1 38 = .ok (.new 29, 3) := by decide +kernel
theorem dX10_init_41 : decode mX10_init.2.1 41 = .ok (.dup, 1) := by decide +kernel
theorem dX10_init_42 : decode mX10_init.2.1 42 = .ok (.invokespecial 31, 3) := by decide +kernel
theorem dX10_init_45 : decode mX10_init.2.1 45 = .ok (.putfield 32, 3) := by decide +kernel
theorem dX10_init_48 : decode mX10_init.2.1 48 = .ok (.aload_n 0, 1) := by decide +kernel
theorem dX10_init_49 : decode mX10_init.2.1 49 = .ok (.new 36, 3) := by decide +kernel
theorem dX10_init_52 : decode mX10_init.2.1 52 = .ok (.dup, 1) := by decide +kernel
theorem dX10_init_53 : decode mX10_init.2.1 53 = .ok (.aload_n 1, 1) := by decide +kernel
theorem dX10_init_54 : decode mX10_init.2.1 54 = .ok (.invokespecial 38, 3) := by decide +kernel
theorem dX10_init_57 : decode mX10_init.2.1 57 = .ok (.putfield 41, 3) := by decide +kernel
theorem dX10_init_60 : decode mX10_init.2.1 60 = .ok (.aload_n 0, 1) := by decide +kernel
theorem dX10_init_61 : decode mX10_init.2.1 61 = .ok (.new 45, 3) := by decide +kernel
theorem dX10_init_64 : decode mX10_init.2.1 64 = .ok (.dup, 1) := by decide +kernel
theorem dX10_init_65 : decode mX10_init.2.1 65 = .ok (.aload_n 1, 1) := by decide +kernel
theorem dX10_init_66 : decode mX10_init.2.1 66 = .ok (.invokespecial 47, 3) := by decide +kernel
theorem dX10_init_69 : decode mX10_init.2.1 69 = .ok (.putfield 48, 3) := by decide +kernel
theorem dX10_init_72 : decode mX10_init.2.1 72 = .ok (.aload_n 0, 1) := by decide +kernel
theorem dX10_init_73 : decode mX10_init.2.1 73 = .ok (.iconst (-1), 1) := by decide +kernel
theorem dX10_init_74 : decode mX10_init.2.1 74 = .ok (.iconst (-1), 1) := by decide +kernel
theorem dX10_init_75 : decode mX10_init.2.1 75 = .ok (.invokevirtual 52, 3) := by decide +kernel
theorem dX10_init_78 : decode mX10_init.2.1 78 = .ok (.return_, 1) := by decide +kernel
set_option maxRecDepth 100000 in
theorem mbX10_init : am_MB mX10_init 2 := ⟨by decide, am_in1 119 rfl rfl, am_in1 5 rfl rfl, ⟨by decide, by decide, by decide +kernel⟩, by decide⟩
set_option maxRecDepth 100000 in
theorem fnX10_9 : am_FN RX10 9 9 5 2 := ⟨TX10, 14, tyX10, .array .int, cb9, rfl, by decide, by decide +kernel, fun w => absurd w (by decide), fun _ _ => ⟨rfl, rfl⟩, am_in2 24 rfl rfl⟩
set_option maxRecDepth 100000 in
theorem fnX10_15 : am_FN RX10 15 9 6 2 := ⟨TX10, 14, tyX10, .array .int, cb9, rfl, by decide, by decide +kernel, fun w => absurd w (by decide), fun _ _ => ⟨rfl, rfl⟩, am_in2 25 rfl rfl⟩
set_option maxRecDepth 100000 in
theorem fnX10_18 : am_FN RX10 18 9 7 2 := ⟨TX10, 14, tyX10, .array .int, cb9, rfl, by decide, by decide +kernel, fun w => absurd w (by decide), fun _ _ => ⟨rfl, rfl⟩, am_in2 26 rfl rfl⟩
set_option maxRecDepth 100000 in
theorem fnX10_21 : am_FN RX10 21 9 0 2 := ⟨TX10, 14, tyX10, .object "PloughField$Book", cb9, rfl, by decide, by decide +kernel, fun w => absurd w (by decide), fun _ _ => ⟨rfl, rfl⟩, am_in2 16 rfl rfl⟩
set_option maxRecDepth 100000 in
theorem fnX10_25 : am_FN RX10 25 9 1 2 := ⟨TX10, 14, tyX10, .object "PloughField$Paths", cb9, rfl, by decide, by decide +kernel, fun w => absurd w (by decide), fun _ _ => ⟨rfl, rfl⟩, am_in2 17 rfl rfl⟩
set_option maxRecDepth 100000 in
theorem fnX10_32 : am_FN RX10 32 9 2 2 := ⟨TX10, 14, tyX10, .object "PloughField$Ground", cb9, rfl, by decide, by decide +kernel, fun w => absurd w (by decide), fun _ _ => ⟨rfl, rfl⟩, am_in2 18 rfl rfl⟩
set_option maxRecDepth 100000 in
theorem fnX10_41 : am_FN RX10 41 9 3 2 := ⟨TX10, 14, tyX10, .object "PloughField$Plants", cb9, rfl, by decide, by decide +kernel, fun w => absurd w (by decide), fun _ _ => ⟨rfl, rfl⟩, am_in2 20 rfl rfl⟩
set_option maxRecDepth 100000 in
theorem fnX10_48 : am_FN RX10 48 9 4 2 := ⟨TX10, 14, tyX10, .object "PloughField$Fleet", cb9, rfl, by decide, by decide +kernel, fun w => absurd w (by decide), fun _ _ => ⟨rfl, rfl⟩, am_in2 22 rfl rfl⟩
theorem dX7_init_0 : decode mX7_init.2.1 0 = .ok (.aload_n 0, 1) := by decide +kernel
theorem dX7_init_1 : decode mX7_init.2.1 1 = .ok (.invokespecial 5, 3) := by decide +kernel
theorem dX7_init_4 : decode mX7_init.2.1 4 = .ok (.aload_n 0, 1) := by decide +kernel
theorem dX7_init_5 : decode mX7_init.2.1 5 = .ok (.sipush 500, 3) := by decide +kernel
theorem dX7_init_8 : decode mX7_init.2.1 8 = .ok (.newarray .int, 2) := by decide +kernel
theorem dX7_init_10 : decode mX7_init.2.1 10 = .ok (.putfield 11, 3) := by decide +kernel
theorem dX7_init_13 : decode mX7_init.2.1 13 = .ok (.aload_n 0, 1) := by decide +kernel
theorem dX7_init_14 : decode mX7_init.2.1 14 = .ok (.sipush 501, 3) := by decide +kernel
theorem dX7_init_17 : decode mX7_init.2.1 17 = .ok (.newarray .int, 2) := by decide +kernel
theorem dX7_init_19 : decode mX7_init.2.1 19 = .ok (.putfield 15, 3) := by decide +kernel
theorem dX7_init_22 : decode mX7_init.2.1 22 = .ok (.aload_n 0, 1) := by decide +kernel
theorem dX7_init_23 : decode mX7_init.2.1 23 = .ok (.sipush 501, 3) := by decide +kernel
theorem dX7_init_26 : decode mX7_init.2.1 26 = .ok (.newarray .int, 2) := by decide +kernel
theorem dX7_init_28 : decode mX7_init.2.1 28 = .ok (.putfield 18, 3) := by decide +kernel
theorem dX7_init_31 : decode mX7_init.2.1 31 = .ok (.aload_n 0, 1) := by decide +kernel
theorem dX7_init_32 : decode mX7_init.2.1 32 = .ok (.sipush 548, 3) := by decide +kernel
theorem dX7_init_35 : decode mX7_init.2.1 35 = .ok (.newarray .int, 2) := by decide +kernel
theorem dX7_init_37 : decode mX7_init.2.1 37 = .ok (.putfield 21, 3) := by decide +kernel
theorem dX7_init_40 : decode mX7_init.2.1 40 = .ok (.return_, 1) := by decide +kernel
set_option maxRecDepth 100000 in
theorem mbX7_init : am_MB mX7_init 0 := ⟨by decide, am_in2 68 rfl rfl, am_in1 10 rfl rfl, ⟨by decide, by decide, by decide +kernel⟩, by decide⟩
set_option maxRecDepth 100000 in
theorem fnX7_11 : am_FN RX7 11 6 0 2 := ⟨TX7, 9, tyX7, .array .int, cb6, rfl, by decide, by decide +kernel, fun w => absurd w (by decide), fun _ _ => ⟨rfl, rfl⟩, am_in2 70 rfl rfl⟩
set_option maxRecDepth 100000 in
theorem fnX7_15 : am_FN RX7 15 6 1 2 := ⟨TX7, 9, tyX7, .array .int, cb6, rfl, by decide, by decide +kernel, fun w => absurd w (by decide), fun _ _ => ⟨rfl, rfl⟩, am_in2 71 rfl rfl⟩
set_option maxRecDepth 100000 in
theorem fnX7_18 : am_FN RX7 18 6 2 2 := ⟨TX7, 9, tyX7, .array .int, cb6, rfl, by decide, by decide +kernel, fun w => absurd w (by decide), fun _ _ => ⟨rfl, rfl⟩, am_in2 72 rfl rfl⟩
set_option maxRecDepth 100000 in
theorem fnX7_21 : am_FN RX7 21 6 3 2 := ⟨TX7, 9, tyX7, .array .int, cb6, rfl, by decide, by decide +kernel, fun w => absurd w (by decide), fun _ _ => ⟨rfl, rfl⟩, am_in2 73 rfl rfl⟩
theorem dX3_init_0 : decode mX3_init.2.1 0 = .ok (.aload_n 0, 1) := by decide +kernel
theorem dX3_init_1 : decode mX3_init.2.1 1 = .ok (.invokespecial 1, 3) := by decide +kernel
theorem dX3_init_4 : decode mX3_init.2.1 4 = .ok (.aload_n 0, 1) := by decide +kernel
theorem dX3_init_5 : decode mX3_init.2.1 5 = .ok (.sipush 548, 3) := by decide +kernel
theorem dX3_init_8 : decode mX3_init.2.1 8 = .ok (.newarray .int, 2) := by decide +kernel
theorem dX3_init_10 : decode mX3_init.2.1 10 = .ok (.putfield 9, 3) := by decide +kernel
theorem dX3_init_13 : decode mX3_init.2.1 13 = .ok (.aload_n 0, 1) := by decide +kernel
theorem dX3_init_14 : decode mX3_init.2.1 14 = .ok (.bipush 64, 2) := by decide +kernel
theorem dX3_init_16 : decode mX3_init.2.1 16 = .ok (.newarray .int, 2) := by decide +kernel
theorem dX3_init_18 : decode mX3_init.2.1 18 = .ok (.putfield 15, 3) := by decide +kernel
theorem dX3_init_21 : decode mX3_init.2.1 21 = .ok (.return_, 1) := by decide +kernel
set_option maxRecDepth 100000 in
theorem mbX3_init : am_MB mX3_init 0 := ⟨by decide, am_in2 106 rfl rfl, am_in1 11 rfl rfl, ⟨by decide, by decide, by decide +kernel⟩, by decide⟩
set_option maxRecDepth 100000 in
theorem fnX3_9 : am_FN RX3 9 3 0 2 := ⟨TX3, 8, tyX3, .array .int, cb3, rfl, by decide, by decide +kernel, fun w => absurd w (by decide), fun _ _ => ⟨rfl, rfl⟩, am_in2 108 rfl rfl⟩
set_option maxRecDepth 100000 in
theorem fnX3_15 : am_FN RX3 15 3 1 2 := ⟨TX3, 8, tyX3, .array .int, cb3, rfl, by decide, by decide +kernel, fun w => absurd w (by decide), fun _ _ => ⟨rfl, rfl⟩, am_in2 109 rfl rfl⟩
theorem dX8_init_0 : decode mX8_init.2.1 0 = .ok (.aload_n 0, 1) := by decide +kernel
theorem dX8_init_1 : decode mX8_init.2.1 1 = .ok (.invokespecial 1, 3) := by decide +kernel
theorem dX8_init_4 : decode mX8_init.2.1 4 = .ok (.aload_n 0, 1) := by decide +kernel
theorem dX8_init_5 : decode mX8_init.2.1 5 = .ok (.new 7, 3) := by decide +kernel
theorem dX8_init_8 : decode mX8_init.2.1 8 = .ok (.dup, 1) := by decide +kernel
theorem dX8_init_9 : decode mX8_init.2.1 9 = .ok (.bipush 12, 2) := by decide +kernel
theorem dX8_init_11 : decode mX8_init.2.1 11 = .ok (.iconst 2, 1) := by decide +kernel
theorem dX8_init_12 : decode mX8_init.2.1 12 = .ok (.invokespecial 11, 3) := by decide +kernel
theorem dX8_init_15 : decode mX8_init.2.1 15 = .ok (.putfield 14, 3) := by decide +kernel
theorem dX8_init_18 : decode mX8_init.2.1 18 = .ok (.return_, 1) := by decide +kernel
set_option maxRecDepth 100000 in
theorem mbX8_init : am_MB mX8_init 0 := ⟨by decide, am_in2 141 rfl rfl, am_in1 12 rfl rfl, ⟨by decide, by decide, by decide +kernel⟩, by decide⟩
set_option maxRecDepth 100000 in
theorem fnX8_14 : am_FN RX8 14 7 0 2 := ⟨TX8, 1, tyX8, .object "PloughField$Table", cb7, rfl, by decide, by decide +kernel, fun w => absurd w (by decide), fun _ _ => ⟨rfl, rfl⟩, am_in2 145 rfl rfl⟩
theorem dX11_init_0 : decode mX11_init.2.1 0 = .ok (.aload_n 0, 1) := by decide +kernel
theorem dX11_init_1 : decode mX11_init.2.1 1 = .ok (.invokespecial 1, 3) := by decide +kernel
theorem dX11_init_4 : decode mX11_init.2.1 4 = .ok (.aload_n 0, 1) := by decide +kernel
theorem dX11_init_5 : decode mX11_init.2.1 5 = .ok (.new 7, 3) := by decide +kernel
theorem dX11_init_8 : decode mX11_init.2.1 8 = .ok (.dup, 1) := by decide +kernel
theorem dX11_init_9 : decode mX11_init.2.1 9 = .ok (.invokespecial 9, 3) := by decide +kernel
theorem dX11_init_12 : decode mX11_init.2.1 12 = .ok (.putfield 10, 3) := by decide +kernel
theorem dX11_init_15 : decode mX11_init.2.1 15 = .ok (.aload_n 0, 1) := by decide +kernel
theorem dX11_init_16 : decode mX11_init.2.1 16 = .ok (.new 16, 3) := by decide +kernel
theorem dX11_init_19 : decode mX11_init.2.1 19 = .ok (.dup, 1) := by decide +kernel
theorem dX11_init_20 : decode mX11_init.2.1 20 = .ok (.invokespecial 18, 3) := by decide +kernel
theorem dX11_init_23 : decode mX11_init.2.1 23 = .ok (.putfield 19, 3) := by decide +kernel
theorem dX11_init_26 : decode mX11_init.2.1 26 = .ok (.aload_n 0, 1) := by decide +kernel
theorem dX11_init_27 : decode mX11_init.2.1 27 = .ok (.new 23, 3) := by decide +kernel
theorem dX11_init_30 : decode mX11_init.2.1 30 = .ok (.dup, 1) := by decide +kernel
theorem dX11_init_31 : decode mX11_init.2.1 31 = .ok (.aload_n 0, 1) := by decide +kernel
theorem dX11_init_32 : decode mX11_init.2.1 32 = .ok (.getfield 10, 3) := by decide +kernel
theorem dX11_init_35 : decode mX11_init.2.1 35 = .ok (.aload_n 0, 1) := by decide +kernel
theorem dX11_init_36 : decode mX11_init.2.1 36 = .ok (.getfield 19, 3) := by decide +kernel
theorem dX11_init_39 : decode mX11_init.2.1 39 = .ok (.invokespecial 25, 3) := by decide +kernel
theorem dX11_init_42 : decode mX11_init.2.1 42 = .ok (.putfield 28, 3) := by decide +kernel
theorem dX11_init_45 : decode mX11_init.2.1 45 = .ok (.aload_n 0, 1) := by decide +kernel
theorem dX11_init_46 : decode mX11_init.2.1 46 = .ok (.new 23, 3) := by decide +kernel
theorem dX11_init_49 : decode mX11_init.2.1 49 = .ok (.dup, 1) := by decide +kernel
theorem dX11_init_50 : decode mX11_init.2.1 50 = .ok (.aload_n 0, 1) := by decide +kernel
theorem dX11_init_51 : decode mX11_init.2.1 51 = .ok (.getfield 10, 3) := by decide +kernel
theorem dX11_init_54 : decode mX11_init.2.1 54 = .ok (.aload_n 0, 1) := by decide +kernel
theorem dX11_init_55 : decode mX11_init.2.1 55 = .ok (.getfield 19, 3) := by decide +kernel
theorem dX11_init_58 : decode mX11_init.2.1 58 = .ok (.invokespecial 25, 3) := by decide +kernel
theorem dX11_init_61 : decode mX11_init.2.1 61 = .ok (.putfield 32, 3) := by decide +kernel
theorem dX11_init_64 : decode mX11_init.2.1 64 = .ok (.aload_n 0, 1) := by decide +kernel
theorem dX11_init_65 : decode mX11_init.2.1 65 = .ok (.new 35, 3) := by decide +kernel
theorem dX11_init_68 : decode mX11_init.2.1 68 = .ok (.dup, 1) := by decide +kernel
theorem dX11_init_69 : decode mX11_init.2.1 69 = .ok (.invokespecial 37, 3) := by decide +kernel
theorem dX11_init_72 : decode mX11_init.2.1 72 = .ok (.putfield 38, 3) := by decide +kernel
theorem dX11_init_75 : decode mX11_init.2.1 75 = .ok (.aload_n 0, 1) := by decide +kernel
theorem dX11_init_76 : decode mX11_init.2.1 76 = .ok (.new 42, 3) := by decide +kernel
theorem dX11_init_79 : decode mX11_init.2.1 79 = .ok (.dup, 1) := by decide +kernel
theorem dX11_init_80 : decode mX11_init.2.1 80 = .ok (.invokespecial 44, 3) := by decide +kernel
theorem dX11_init_83 : decode mX11_init.2.1 83 = .ok (.putfield 45, 3) := by decide +kernel
theorem dX11_init_86 : decode mX11_init.2.1 86 = .ok (.aload_n 0, 1) := by decide +kernel
theorem dX11_init_87 : decode mX11_init.2.1 87 = .ok (.new 49, 3) := by decide +kernel
theorem dX11_init_90 : decode mX11_init.2.1 90 = .ok (.dup, 1) := by decide +kernel
theorem dX11_init_91 : decode mX11_init.2.1 91 = .ok (.invokespecial 51, 3) := by decide +kernel
theorem dX11_init_94 : decode mX11_init.2.1 94 = .ok (.putfield 52, 3) := by decide +kernel
theorem dX11_init_97 : decode mX11_init.2.1 97 = .ok (.aload_n 0, 1) := by decide +kernel
theorem dX11_init_98 : decode mX11_init.2.1 98 = .ok (.bipush 8, 2) := by decide +kernel
theorem dX11_init_100 : decode mX11_init.2.1 100 = .ok (.newarray .int, 2) := by decide +kernel
theorem dX11_init_102 : decode mX11_init.2.1 102 = .ok (.putfield 56, 3) := by decide +kernel
theorem dX11_init_105 : decode mX11_init.2.1 105 = .ok (.aload_n 0, 1) := by decide +kernel
theorem dX11_init_106 : decode mX11_init.2.1 106 = .ok (.iconst 0, 1) := by decide +kernel
theorem dX11_init_107 : decode mX11_init.2.1 107 = .ok (.putfield 60, 3) := by decide +kernel
theorem dX11_init_110 : decode mX11_init.2.1 110 = .ok (.aload_n 0, 1) := by decide +kernel
theorem dX11_init_111 : decode mX11_init.2.1 111 = .ok (.iconst (-1), 1) := by decide +kernel
theorem dX11_init_112 : decode mX11_init.2.1 112 = .ok (.putfield 64, 3) := by decide +kernel
theorem dX11_init_115 : decode mX11_init.2.1 115 = .ok (.return_, 1) := by decide +kernel
set_option maxRecDepth 100000 in
theorem mbX11_init : am_MB mX11_init 0 := ⟨by decide, am_in1 28 rfl rfl, am_in1 1 rfl rfl, ⟨by decide, by decide, by decide +kernel⟩, by decide⟩
set_option maxRecDepth 100000 in
theorem fnX11_10 : am_FN RX11 10 10 0 2 := ⟨TX11, 10, tyX11, .object "PloughField$Book", cb10, rfl, by decide, by decide +kernel, fun w => absurd w (by decide), fun _ _ => ⟨rfl, rfl⟩, am_in2 150 rfl rfl⟩
set_option maxRecDepth 100000 in
theorem fnX11_19 : am_FN RX11 19 10 1 2 := ⟨TX11, 10, tyX11, .object "PloughField$Paths", cb10, rfl, by decide, by decide +kernel, fun w => absurd w (by decide), fun _ _ => ⟨rfl, rfl⟩, am_in2 151 rfl rfl⟩
set_option maxRecDepth 100000 in
theorem fnX11_28 : am_FN RX11 28 10 2 2 := ⟨TX11, 10, tyX11, .object "PloughField$World", cb10, rfl, by decide, by decide +kernel, fun w => absurd w (by decide), fun _ _ => ⟨rfl, rfl⟩, am_in2 152 rfl rfl⟩
set_option maxRecDepth 100000 in
theorem fnX11_32 : am_FN RX11 32 10 3 2 := ⟨TX11, 10, tyX11, .object "PloughField$World", cb10, rfl, by decide, by decide +kernel, fun w => absurd w (by decide), fun _ _ => ⟨rfl, rfl⟩, am_in2 153 rfl rfl⟩
set_option maxRecDepth 100000 in
theorem fnX11_38 : am_FN RX11 38 10 4 2 := ⟨TX11, 10, tyX11, .object "PloughField$Reader", cb10, rfl, by decide, by decide +kernel, fun w => absurd w (by decide), fun _ _ => ⟨rfl, rfl⟩, am_in2 154 rfl rfl⟩
set_option maxRecDepth 100000 in
theorem fnX11_45 : am_FN RX11 45 10 5 2 := ⟨TX11, 10, tyX11, .object "PloughField$Machine", cb10, rfl, by decide, by decide +kernel, fun w => absurd w (by decide), fun _ _ => ⟨rfl, rfl⟩, am_in2 155 rfl rfl⟩
set_option maxRecDepth 100000 in
theorem fnX11_52 : am_FN RX11 52 10 6 2 := ⟨TX11, 10, tyX11, .object "PloughField$Strips", cb10, rfl, by decide, by decide +kernel, fun w => absurd w (by decide), fun _ _ => ⟨rfl, rfl⟩, am_in2 156 rfl rfl⟩
set_option maxRecDepth 100000 in
theorem fnX11_56 : am_FN RX11 56 10 7 2 := ⟨TX11, 10, tyX11, .array .int, cb10, rfl, by decide, by decide +kernel, fun w => absurd w (by decide), fun _ _ => ⟨rfl, rfl⟩, am_in2 157 rfl rfl⟩
set_option maxRecDepth 100000 in
theorem fnX11_60 : am_FN RX11 60 10 8 0 := ⟨TX11, 10, tyX11, .int, cb10, rfl, by decide, by decide +kernel, fun _ => rfl, fun w => absurd w (by decide), am_in2 158 rfl rfl⟩
set_option maxRecDepth 100000 in
theorem fnX11_64 : am_FN RX11 64 10 9 0 := ⟨TX11, 10, tyX11, .int, cb10, rfl, by decide, by decide +kernel, fun _ => rfl, fun w => absurd w (by decide), am_in2 159 rfl rfl⟩
theorem dX12_init_0 : decode mX12_init.2.1 0 = .ok (.aload_n 0, 1) := by decide +kernel
theorem dX12_init_1 : decode mX12_init.2.1 1 = .ok (.invokespecial 1, 3) := by decide +kernel
theorem dX12_init_4 : decode mX12_init.2.1 4 = .ok (.aload_n 0, 1) := by decide +kernel
theorem dX12_init_5 : decode mX12_init.2.1 5 = .ok (.sipush 1635, 3) := by decide +kernel
theorem dX12_init_8 : decode mX12_init.2.1 8 = .ok (.newarray .int, 2) := by decide +kernel
theorem dX12_init_10 : decode mX12_init.2.1 10 = .ok (.putfield 7, 3) := by decide +kernel
theorem dX12_init_13 : decode mX12_init.2.1 13 = .ok (.aload_n 0, 1) := by decide +kernel
theorem dX12_init_14 : decode mX12_init.2.1 14 = .ok (.sipush 1635, 3) := by decide +kernel
theorem dX12_init_17 : decode mX12_init.2.1 17 = .ok (.newarray .int, 2) := by decide +kernel
theorem dX12_init_19 : decode mX12_init.2.1 19 = .ok (.putfield 13, 3) := by decide +kernel
theorem dX12_init_22 : decode mX12_init.2.1 22 = .ok (.aload_n 0, 1) := by decide +kernel
theorem dX12_init_23 : decode mX12_init.2.1 23 = .ok (.sipush 400, 3) := by decide +kernel
theorem dX12_init_26 : decode mX12_init.2.1 26 = .ok (.newarray .int, 2) := by decide +kernel
theorem dX12_init_28 : decode mX12_init.2.1 28 = .ok (.putfield 16, 3) := by decide +kernel
theorem dX12_init_31 : decode mX12_init.2.1 31 = .ok (.aload_n 0, 1) := by decide +kernel
theorem dX12_init_32 : decode mX12_init.2.1 32 = .ok (.sipush 400, 3) := by decide +kernel
theorem dX12_init_35 : decode mX12_init.2.1 35 = .ok (.newarray .int, 2) := by decide +kernel
theorem dX12_init_37 : decode mX12_init.2.1 37 = .ok (.putfield 19, 3) := by decide +kernel
theorem dX12_init_40 : decode mX12_init.2.1 40 = .ok (.aload_n 0, 1) := by decide +kernel
theorem dX12_init_41 : decode mX12_init.2.1 41 = .ok (.sipush 400, 3) := by decide +kernel
theorem dX12_init_44 : decode mX12_init.2.1 44 = .ok (.newarray .int, 2) := by decide +kernel
theorem dX12_init_46 : decode mX12_init.2.1 46 = .ok (.putfield 22, 3) := by decide +kernel
theorem dX12_init_49 : decode mX12_init.2.1 49 = .ok (.aload_n 0, 1) := by decide +kernel
theorem dX12_init_50 : decode mX12_init.2.1 50 = .ok (.sipush 400, 3) := by decide +kernel
theorem dX12_init_53 : decode mX12_init.2.1 53 = .ok (.newarray .int, 2) := by decide +kernel
theorem dX12_init_55 : decode mX12_init.2.1 55 = .ok (.putfield 25, 3) := by decide +kernel
theorem dX12_init_58 : decode mX12_init.2.1 58 = .ok (.aload_n 0, 1) := by decide +kernel
theorem dX12_init_59 : decode mX12_init.2.1 59 = .ok (.sipush 400, 3) := by decide +kernel
theorem dX12_init_62 : decode mX12_init.2.1 62 = .ok (.newarray .int, 2) := by decide +kernel
theorem dX12_init_64 : decode mX12_init.2.1 64 = .ok (.putfield 28, 3) := by decide +kernel
theorem dX12_init_67 : decode mX12_init.2.1 67 = .ok (.aload_n 0, 1) := by decide +kernel
theorem dX12_init_68 : decode mX12_init.2.1 68 = .ok (.bipush 30, 2) := by decide +kernel
theorem dX12_init_70 : decode mX12_init.2.1 70 = .ok (.newarray .int, 2) := by decide +kernel
theorem dX12_init_72 : decode mX12_init.2.1 72 = .ok (.putfield 31, 3) := by decide +kernel
theorem dX12_init_75 : decode mX12_init.2.1 75 = .ok (.aload_n 0, 1) := by decide +kernel
theorem dX12_init_76 : decode mX12_init.2.1 76 = .ok (.bipush 30, 2) := by decide +kernel
theorem dX12_init_78 : decode mX12_init.2.1 78 = .ok (.newarray .int, 2) := by decide +kernel
theorem dX12_init_80 : decode mX12_init.2.1 80 = .ok (.putfield 34, 3) := by decide +kernel
theorem dX12_init_83 : decode mX12_init.2.1 83 = .ok (.aload_n 0, 1) := by decide +kernel
theorem dX12_init_84 : decode mX12_init.2.1 84 = .ok (.bipush 30, 2) := by decide +kernel
theorem dX12_init_86 : decode mX12_init.2.1 86 = .ok (.newarray .int, 2) := by decide +kernel
theorem dX12_init_88 : decode mX12_init.2.1 88 = .ok (.putfield 37, 3) := by decide +kernel
theorem dX12_init_91 : decode mX12_init.2.1 91 = .ok (.aload_n 0, 1) := by decide +kernel
theorem dX12_init_92 : decode mX12_init.2.1 92 = .ok (.bipush 8, 2) := by decide +kernel
theorem dX12_init_94 : decode mX12_init.2.1 94 = .ok (.newarray .int, 2) := by decide +kernel
theorem dX12_init_96 : decode mX12_init.2.1 96 = .ok (.putfield 40, 3) := by decide +kernel
theorem dX12_init_99 : decode mX12_init.2.1 99 = .ok (.aload_n 0, 1) := by decide +kernel
theorem dX12_init_100 : decode mX12_init.2.1 100 = .ok (.bipush 8, 2) := by decide +kernel
theorem dX12_init_102 : decode mX12_init.2.1 102 = .ok (.newarray .int, 2) := by decide +kernel
theorem dX12_init_104 : decode mX12_init.2.1 104 = .ok (.putfield 43, 3) := by decide +kernel
theorem dX12_init_107 : decode mX12_init.2.1 107 = .ok (.aload_n 0, 1) := by decide +kernel
theorem dX12_init_108 : decode mX12_init.2.1 108 = .ok (.bipush 8, 2) := by decide +kernel
theorem dX12_init_110 : decode mX12_init.2.1 110 = .ok (.newarray .int, 2) := by decide +kernel
theorem dX12_init_112 : decode mX12_init.2.1 112 = .ok (.putfield 46, 3) := by decide +kernel
theorem dX12_init_115 : decode mX12_init.2.1 115 = .ok (.aload_n 0, 1) := by decide +kernel
theorem dX12_init_116 : decode mX12_init.2.1 116 = .ok (.bipush 8, 2) := by decide +kernel
theorem dX12_init_118 : decode mX12_init.2.1 118 = .ok (.newarray .int, 2) := by decide +kernel
theorem dX12_init_120 : decode mX12_init.2.1 120 = .ok (.putfield 49, 3) := by decide +kernel
theorem dX12_init_123 : decode mX12_init.2.1 123 = .ok (.aload_n 0, 1) := by decide +kernel
theorem dX12_init_124 : decode mX12_init.2.1 124 = .ok (.bipush 8, 2) := by decide +kernel
theorem dX12_init_126 : decode mX12_init.2.1 126 = .ok (.newarray .int, 2) := by decide +kernel
theorem dX12_init_128 : decode mX12_init.2.1 128 = .ok (.putfield 52, 3) := by decide +kernel
theorem dX12_init_131 : decode mX12_init.2.1 131 = .ok (.aload_n 0, 1) := by decide +kernel
theorem dX12_init_132 : decode mX12_init.2.1 132 = .ok (.bipush 60, 2) := by decide +kernel
theorem dX12_init_134 : decode mX12_init.2.1 134 = .ok (.newarray .int, 2) := by decide +kernel
theorem dX12_init_136 : decode mX12_init.2.1 136 = .ok (.putfield 55, 3) := by decide +kernel
theorem dX12_init_139 : decode mX12_init.2.1 139 = .ok (.aload_n 0, 1) := by decide +kernel
theorem dX12_init_140 : decode mX12_init.2.1 140 = .ok (.bipush 60, 2) := by decide +kernel
theorem dX12_init_142 : decode mX12_init.2.1 142 = .ok (.newarray .int, 2) := by decide +kernel
theorem dX12_init_144 : decode mX12_init.2.1 144 = .ok (.putfield 58, 3) := by decide +kernel
theorem dX12_init_147 : decode mX12_init.2.1 147 = .ok (.aload_n 0, 1) := by decide +kernel
theorem dX12_init_148 : decode mX12_init.2.1 148 = .ok (.bipush 60, 2) := by decide +kernel
theorem dX12_init_150 : decode mX12_init.2.1 150 = .ok (.newarray .int, 2) := by decide +kernel
theorem dX12_init_152 : decode mX12_init.2.1 152 = .ok (.putfield 61, 3) := by decide +kernel
theorem dX12_init_155 : decode mX12_init.2.1 155 = .ok (.aload_n 0, 1) := by decide +kernel
theorem dX12_init_156 : decode mX12_init.2.1 156 = .ok (.bipush 40, 2) := by decide +kernel
theorem dX12_init_158 : decode mX12_init.2.1 158 = .ok (.newarray .int, 2) := by decide +kernel
theorem dX12_init_160 : decode mX12_init.2.1 160 = .ok (.putfield 64, 3) := by decide +kernel
theorem dX12_init_163 : decode mX12_init.2.1 163 = .ok (.aload_n 0, 1) := by decide +kernel
theorem dX12_init_164 : decode mX12_init.2.1 164 = .ok (.iconst 5, 1) := by decide +kernel
theorem dX12_init_165 : decode mX12_init.2.1 165 = .ok (.newarray .int, 2) := by decide +kernel
theorem dX12_init_167 : decode mX12_init.2.1 167 = .ok (.putfield 67, 3) := by decide +kernel
theorem dX12_init_170 : decode mX12_init.2.1 170 = .ok (.aload_n 0, 1) := by decide +kernel
theorem dX12_init_171 : decode mX12_init.2.1 171 = .ok (.bipush 20, 2) := by decide +kernel
theorem dX12_init_173 : decode mX12_init.2.1 173 = .ok (.newarray .int, 2) := by decide +kernel
theorem dX12_init_175 : decode mX12_init.2.1 175 = .ok (.putfield 70, 3) := by decide +kernel
theorem dX12_init_178 : decode mX12_init.2.1 178 = .ok (.aload_n 0, 1) := by decide +kernel
theorem dX12_init_179 : decode mX12_init.2.1 179 = .ok (.iconst 5, 1) := by decide +kernel
theorem dX12_init_180 : decode mX12_init.2.1 180 = .ok (.newarray .boolean, 2) := by decide +kernel
theorem dX12_init_182 : decode mX12_init.2.1 182 = .ok (.putfield 73, 3) := by decide +kernel
theorem dX12_init_185 : decode mX12_init.2.1 185 = .ok (.aload_n 0, 1) := by decide +kernel
theorem dX12_init_186 : decode mX12_init.2.1 186 = .ok (.iconst (-1), 1) := by decide +kernel
theorem dX12_init_187 : decode mX12_init.2.1 187 = .ok (.putfield 77, 3) := by decide +kernel
theorem dX12_init_190 : decode mX12_init.2.1 190 = .ok (.aload_n 0, 1) := by decide +kernel
theorem dX12_init_191 : decode mX12_init.2.1 191 = .ok (.iconst 5, 1) := by decide +kernel
theorem dX12_init_192 : decode mX12_init.2.1 192 = .ok (.newarray .long, 2) := by decide +kernel
theorem dX12_init_194 : decode mX12_init.2.1 194 = .ok (.putfield 81, 3) := by decide +kernel
theorem dX12_init_197 : decode mX12_init.2.1 197 = .ok (.aload_n 0, 1) := by decide +kernel
theorem dX12_init_198 : decode mX12_init.2.1 198 = .ok (.bipush 64, 2) := by decide +kernel
theorem dX12_init_200 : decode mX12_init.2.1 200 = .ok (.newarray .long, 2) := by decide +kernel
theorem dX12_init_202 : decode mX12_init.2.1 202 = .ok (.putfield 85, 3) := by decide +kernel
theorem dX12_init_205 : decode mX12_init.2.1 205 = .ok (.aload_n 0, 1) := by decide +kernel
theorem dX12_init_206 : decode mX12_init.2.1 206 = .ok (.bipush 64, 2) := by decide +kernel
theorem dX12_init_208 : decode mX12_init.2.1 208 = .ok (.newarray .boolean, 2) := by decide +kernel
theorem dX12_init_210 : decode mX12_init.2.1 210 = .ok (.putfield 88, 3) := by decide +kernel
theorem dX12_init_213 : decode mX12_init.2.1 213 = .ok (.aload_n 0, 1) := by decide +kernel
theorem dX12_init_214 : decode mX12_init.2.1 214 = .ok (.bipush 64, 2) := by decide +kernel
theorem dX12_init_216 : decode mX12_init.2.1 216 = .ok (.newarray .int, 2) := by decide +kernel
theorem dX12_init_218 : decode mX12_init.2.1 218 = .ok (.putfield 91, 3) := by decide +kernel
theorem dX12_init_221 : decode mX12_init.2.1 221 = .ok (.aload_n 0, 1) := by decide +kernel
theorem dX12_init_222 : decode mX12_init.2.1 222 = .ok (.bipush 64, 2) := by decide +kernel
theorem dX12_init_224 : decode mX12_init.2.1 224 = .ok (.newarray .boolean, 2) := by decide +kernel
theorem dX12_init_226 : decode mX12_init.2.1 226 = .ok (.putfield 94, 3) := by decide +kernel
theorem dX12_init_229 : decode mX12_init.2.1 229 = .ok (.aload_n 0, 1) := by decide +kernel
theorem dX12_init_230 : decode mX12_init.2.1 230 = .ok (.bipush 64, 2) := by decide +kernel
theorem dX12_init_232 : decode mX12_init.2.1 232 = .ok (.newarray .boolean, 2) := by decide +kernel
theorem dX12_init_234 : decode mX12_init.2.1 234 = .ok (.putfield 97, 3) := by decide +kernel
theorem dX12_init_237 : decode mX12_init.2.1 237 = .ok (.aload_n 0, 1) := by decide +kernel
theorem dX12_init_238 : decode mX12_init.2.1 238 = .ok (.bipush 64, 2) := by decide +kernel
theorem dX12_init_240 : decode mX12_init.2.1 240 = .ok (.newarray .int, 2) := by decide +kernel
theorem dX12_init_242 : decode mX12_init.2.1 242 = .ok (.putfield 100, 3) := by decide +kernel
theorem dX12_init_245 : decode mX12_init.2.1 245 = .ok (.aload_n 0, 1) := by decide +kernel
theorem dX12_init_246 : decode mX12_init.2.1 246 = .ok (.bipush 64, 2) := by decide +kernel
theorem dX12_init_248 : decode mX12_init.2.1 248 = .ok (.newarray .boolean, 2) := by decide +kernel
theorem dX12_init_250 : decode mX12_init.2.1 250 = .ok (.putfield 103, 3) := by decide +kernel
theorem dX12_init_253 : decode mX12_init.2.1 253 = .ok (.aload_n 0, 1) := by decide +kernel
theorem dX12_init_254 : decode mX12_init.2.1 254 = .ok (.bipush 8, 2) := by decide +kernel
theorem dX12_init_256 : decode mX12_init.2.1 256 = .ok (.newarray .int, 2) := by decide +kernel
theorem dX12_init_258 : decode mX12_init.2.1 258 = .ok (.putfield 106, 3) := by decide +kernel
theorem dX12_init_261 : decode mX12_init.2.1 261 = .ok (.aload_n 0, 1) := by decide +kernel
theorem dX12_init_262 : decode mX12_init.2.1 262 = .ok (.bipush 12, 2) := by decide +kernel
theorem dX12_init_264 : decode mX12_init.2.1 264 = .ok (.newarray .int, 2) := by decide +kernel
theorem dX12_init_266 : decode mX12_init.2.1 266 = .ok (.putfield 109, 3) := by decide +kernel
theorem dX12_init_269 : decode mX12_init.2.1 269 = .ok (.aload_n 0, 1) := by decide +kernel
theorem dX12_init_270 : decode mX12_init.2.1 270 = .ok (.bipush 12, 2) := by decide +kernel
theorem dX12_init_272 : decode mX12_init.2.1 272 = .ok (.newarray .int, 2) := by decide +kernel
theorem dX12_init_274 : decode mX12_init.2.1 274 = .ok (.putfield 112, 3) := by decide +kernel
theorem dX12_init_277 : decode mX12_init.2.1 277 = .ok (.aload_n 0, 1) := by decide +kernel
theorem dX12_init_278 : decode mX12_init.2.1 278 = .ok (.iconst (-1), 1) := by decide +kernel
theorem dX12_init_279 : decode mX12_init.2.1 279 = .ok (.putfield 115, 3) := by decide +kernel
theorem dX12_init_282 : decode mX12_init.2.1 282 = .ok (.aload_n 0, 1) := by decide +kernel
theorem dX12_init_283 : decode mX12_init.2.1 283 = .ok (.bipush 9, 2) := by decide +kernel
theorem dX12_init_285 : decode mX12_init.2.1 285 = .ok (.newarray .int, 2) := by decide +kernel
theorem dX12_init_287 : decode mX12_init.2.1 287 = .ok (.putfield 118, 3) := by decide +kernel
theorem dX12_init_290 : decode mX12_init.2.1 290 = .ok (.aload_n 0, 1) := by decide +kernel
theorem dX12_init_291 : decode mX12_init.2.1 291 = .ok (.sipush 216, 3) := by decide +kernel
theorem dX12_init_294 : decode mX12_init.2.1 294 = .ok (.newarray .int, 2) := by decide +kernel
theorem dX12_init_296 : decode mX12_init.2.1 296 = .ok (.putfield 121, 3) := by decide +kernel
theorem dX12_init_299 : decode mX12_init.2.1 299 = .ok (.aload_n 0, 1) := by decide +kernel
theorem dX12_init_300 : decode mX12_init.2.1 300 = .ok (.sipush 216, 3) := by decide +kernel
theorem dX12_init_303 : decode mX12_init.2.1 303 = .ok (.newarray .int, 2) := by decide +kernel
theorem dX12_init_305 : decode mX12_init.2.1 305 = .ok (.putfield 124, 3) := by decide +kernel
theorem dX12_init_308 : decode mX12_init.2.1 308 = .ok (.aload_n 0, 1) := by decide +kernel
theorem dX12_init_309 : decode mX12_init.2.1 309 = .ok (.sipush 216, 3) := by decide +kernel
theorem dX12_init_312 : decode mX12_init.2.1 312 = .ok (.newarray .int, 2) := by decide +kernel
theorem dX12_init_314 : decode mX12_init.2.1 314 = .ok (.putfield 127, 3) := by decide +kernel
theorem dX12_init_317 : decode mX12_init.2.1 317 = .ok (.aload_n 0, 1) := by decide +kernel
theorem dX12_init_318 : decode mX12_init.2.1 318 = .ok (.sipush 216, 3) := by decide +kernel
theorem dX12_init_321 : decode mX12_init.2.1 321 = .ok (.newarray .int, 2) := by decide +kernel
theorem dX12_init_323 : decode mX12_init.2.1 323 = .ok (.putfield 130, 3) := by decide +kernel
theorem dX12_init_326 : decode mX12_init.2.1 326 = .ok (.aload_n 0, 1) := by decide +kernel
theorem dX12_init_327 : decode mX12_init.2.1 327 = .ok (.sipush 6300, 3) := by decide +kernel
theorem dX12_init_330 : decode mX12_init.2.1 330 = .ok (.newarray .int, 2) := by decide +kernel
theorem dX12_init_332 : decode mX12_init.2.1 332 = .ok (.putfield 133, 3) := by decide +kernel
theorem dX12_init_335 : decode mX12_init.2.1 335 = .ok (.aload_n 0, 1) := by decide +kernel
theorem dX12_init_336 : decode mX12_init.2.1 336 = .ok (.sipush 6300, 3) := by decide +kernel
theorem dX12_init_339 : decode mX12_init.2.1 339 = .ok (.newarray .int, 2) := by decide +kernel
theorem dX12_init_341 : decode mX12_init.2.1 341 = .ok (.putfield 136, 3) := by decide +kernel
theorem dX12_init_344 : decode mX12_init.2.1 344 = .ok (.aload_n 0, 1) := by decide +kernel
theorem dX12_init_345 : decode mX12_init.2.1 345 = .ok (.bipush 64, 2) := by decide +kernel
theorem dX12_init_347 : decode mX12_init.2.1 347 = .ok (.newarray .long, 2) := by decide +kernel
theorem dX12_init_349 : decode mX12_init.2.1 349 = .ok (.putfield 139, 3) := by decide +kernel
theorem dX12_init_352 : decode mX12_init.2.1 352 = .ok (.aload_n 0, 1) := by decide +kernel
theorem dX12_init_353 : decode mX12_init.2.1 353 = .ok (.bipush 8, 2) := by decide +kernel
theorem dX12_init_355 : decode mX12_init.2.1 355 = .ok (.newarray .long, 2) := by decide +kernel
theorem dX12_init_357 : decode mX12_init.2.1 357 = .ok (.putfield 142, 3) := by decide +kernel
theorem dX12_init_360 : decode mX12_init.2.1 360 = .ok (.aload_n 0, 1) := by decide +kernel
theorem dX12_init_361 : decode mX12_init.2.1 361 = .ok (.sipush 500, 3) := by decide +kernel
theorem dX12_init_364 : decode mX12_init.2.1 364 = .ok (.newarray .byte, 2) := by decide +kernel
theorem dX12_init_366 : decode mX12_init.2.1 366 = .ok (.putfield 145, 3) := by decide +kernel
theorem dX12_init_369 : decode mX12_init.2.1 369 = .ok (.aload_n 0, 1) := by decide +kernel
theorem dX12_init_370 : decode mX12_init.2.1 370 = .ok (.sipush 500, 3) := by decide +kernel
theorem dX12_init_373 : decode mX12_init.2.1 373 = .ok (.newarray .byte, 2) := by decide +kernel
theorem dX12_init_375 : decode mX12_init.2.1 375 = .ok (.putfield 149, 3) := by decide +kernel
theorem dX12_init_378 : decode mX12_init.2.1 378 = .ok (.aload_n 0, 1) := by decide +kernel
theorem dX12_init_379 : decode mX12_init.2.1 379 = .ok (.invokevirtual 152, 3) := by decide +kernel
theorem dX12_init_382 : decode mX12_init.2.1 382 = .ok (.return_, 1) := by decide +kernel
set_option maxRecDepth 100000 in
theorem mbX12_init : am_MB mX12_init 0 := ⟨by decide, am_in6 39 rfl rfl, am_in1 13 rfl rfl, ⟨by decide, by decide, by decide +kernel⟩, by decide⟩
set_option maxRecDepth 100000 in
theorem fnX12_7 : am_FN RX12 7 11 0 2 := ⟨TX12, 65, tyX12, .array .int, cb11, rfl, by decide, by decide +kernel, fun w => absurd w (by decide), fun _ _ => ⟨rfl, rfl⟩, am_in6 45 rfl rfl⟩
set_option maxRecDepth 100000 in
theorem fnX12_13 : am_FN RX12 13 11 1 2 := ⟨TX12, 65, tyX12, .array .int, cb11, rfl, by decide, by decide +kernel, fun w => absurd w (by decide), fun _ _ => ⟨rfl, rfl⟩, am_in6 46 rfl rfl⟩
set_option maxRecDepth 100000 in
theorem fnX12_16 : am_FN RX12 16 11 5 2 := ⟨TX12, 65, tyX12, .array .int, cb11, rfl, by decide, by decide +kernel, fun w => absurd w (by decide), fun _ _ => ⟨rfl, rfl⟩, am_in6 50 rfl rfl⟩
set_option maxRecDepth 100000 in
theorem fnX12_19 : am_FN RX12 19 11 6 2 := ⟨TX12, 65, tyX12, .array .int, cb11, rfl, by decide, by decide +kernel, fun w => absurd w (by decide), fun _ _ => ⟨rfl, rfl⟩, am_in6 51 rfl rfl⟩
set_option maxRecDepth 100000 in
theorem fnX12_22 : am_FN RX12 22 11 7 2 := ⟨TX12, 65, tyX12, .array .int, cb11, rfl, by decide, by decide +kernel, fun w => absurd w (by decide), fun _ _ => ⟨rfl, rfl⟩, am_in6 52 rfl rfl⟩
set_option maxRecDepth 100000 in
theorem fnX12_25 : am_FN RX12 25 11 8 2 := ⟨TX12, 65, tyX12, .array .int, cb11, rfl, by decide, by decide +kernel, fun w => absurd w (by decide), fun _ _ => ⟨rfl, rfl⟩, am_in6 53 rfl rfl⟩
set_option maxRecDepth 100000 in
theorem fnX12_28 : am_FN RX12 28 11 9 2 := ⟨TX12, 65, tyX12, .array .int, cb11, rfl, by decide, by decide +kernel, fun w => absurd w (by decide), fun _ _ => ⟨rfl, rfl⟩, am_in6 54 rfl rfl⟩
set_option maxRecDepth 100000 in
theorem fnX12_31 : am_FN RX12 31 11 15 2 := ⟨TX12, 65, tyX12, .array .int, cb11, rfl, by decide, by decide +kernel, fun w => absurd w (by decide), fun _ _ => ⟨rfl, rfl⟩, am_in6 60 rfl rfl⟩
set_option maxRecDepth 100000 in
theorem fnX12_34 : am_FN RX12 34 11 16 2 := ⟨TX12, 65, tyX12, .array .int, cb11, rfl, by decide, by decide +kernel, fun w => absurd w (by decide), fun _ _ => ⟨rfl, rfl⟩, am_in6 61 rfl rfl⟩
set_option maxRecDepth 100000 in
theorem fnX12_37 : am_FN RX12 37 11 17 2 := ⟨TX12, 65, tyX12, .array .int, cb11, rfl, by decide, by decide +kernel, fun w => absurd w (by decide), fun _ _ => ⟨rfl, rfl⟩, am_in6 62 rfl rfl⟩
set_option maxRecDepth 100000 in
theorem fnX12_40 : am_FN RX12 40 11 18 2 := ⟨TX12, 65, tyX12, .array .int, cb11, rfl, by decide, by decide +kernel, fun w => absurd w (by decide), fun _ _ => ⟨rfl, rfl⟩, am_in6 63 rfl rfl⟩
set_option maxRecDepth 100000 in
theorem fnX12_43 : am_FN RX12 43 11 19 2 := ⟨TX12, 65, tyX12, .array .int, cb11, rfl, by decide, by decide +kernel, fun w => absurd w (by decide), fun _ _ => ⟨rfl, rfl⟩, am_in6 64 rfl rfl⟩
set_option maxRecDepth 100000 in
theorem fnX12_46 : am_FN RX12 46 11 20 2 := ⟨TX12, 65, tyX12, .array .int, cb11, rfl, by decide, by decide +kernel, fun w => absurd w (by decide), fun _ _ => ⟨rfl, rfl⟩, am_in6 65 rfl rfl⟩
set_option maxRecDepth 100000 in
theorem fnX12_49 : am_FN RX12 49 11 21 2 := ⟨TX12, 65, tyX12, .array .int, cb11, rfl, by decide, by decide +kernel, fun w => absurd w (by decide), fun _ _ => ⟨rfl, rfl⟩, am_in6 66 rfl rfl⟩
set_option maxRecDepth 100000 in
theorem fnX12_52 : am_FN RX12 52 11 22 2 := ⟨TX12, 65, tyX12, .array .int, cb11, rfl, by decide, by decide +kernel, fun w => absurd w (by decide), fun _ _ => ⟨rfl, rfl⟩, am_in6 67 rfl rfl⟩
set_option maxRecDepth 100000 in
theorem fnX12_55 : am_FN RX12 55 11 23 2 := ⟨TX12, 65, tyX12, .array .int, cb11, rfl, by decide, by decide +kernel, fun w => absurd w (by decide), fun _ _ => ⟨rfl, rfl⟩, am_in6 68 rfl rfl⟩
set_option maxRecDepth 100000 in
theorem fnX12_58 : am_FN RX12 58 11 24 2 := ⟨TX12, 65, tyX12, .array .int, cb11, rfl, by decide, by decide +kernel, fun w => absurd w (by decide), fun _ _ => ⟨rfl, rfl⟩, am_in6 69 rfl rfl⟩
set_option maxRecDepth 100000 in
theorem fnX12_61 : am_FN RX12 61 11 25 2 := ⟨TX12, 65, tyX12, .array .int, cb11, rfl, by decide, by decide +kernel, fun w => absurd w (by decide), fun _ _ => ⟨rfl, rfl⟩, am_in6 70 rfl rfl⟩
set_option maxRecDepth 100000 in
theorem fnX12_64 : am_FN RX12 64 11 26 2 := ⟨TX12, 65, tyX12, .array .int, cb11, rfl, by decide, by decide +kernel, fun w => absurd w (by decide), fun _ _ => ⟨rfl, rfl⟩, am_in6 71 rfl rfl⟩
set_option maxRecDepth 100000 in
theorem fnX12_67 : am_FN RX12 67 11 27 2 := ⟨TX12, 65, tyX12, .array .int, cb11, rfl, by decide, by decide +kernel, fun w => absurd w (by decide), fun _ _ => ⟨rfl, rfl⟩, am_in6 72 rfl rfl⟩
set_option maxRecDepth 100000 in
theorem fnX12_70 : am_FN RX12 70 11 28 2 := ⟨TX12, 65, tyX12, .array .int, cb11, rfl, by decide, by decide +kernel, fun w => absurd w (by decide), fun _ _ => ⟨rfl, rfl⟩, am_in6 73 rfl rfl⟩
set_option maxRecDepth 100000 in
theorem fnX12_73 : am_FN RX12 73 11 29 2 := ⟨TX12, 65, tyX12, .array .boolean, cb11, rfl, by decide, by decide +kernel, fun w => absurd w (by decide), fun _ _ => ⟨rfl, rfl⟩, am_in6 74 rfl rfl⟩
set_option maxRecDepth 100000 in
theorem fnX12_77 : am_FN RX12 77 11 30 0 := ⟨TX12, 65, tyX12, .int, cb11, rfl, by decide, by decide +kernel, fun _ => rfl, fun w => absurd w (by decide), am_in6 75 rfl rfl⟩
set_option maxRecDepth 100000 in
theorem fnX12_81 : am_FN RX12 81 11 32 2 := ⟨TX12, 65, tyX12, .array .long, cb11, rfl, by decide, by decide +kernel, fun w => absurd w (by decide), fun _ _ => ⟨rfl, rfl⟩, am_in6 77 rfl rfl⟩
set_option maxRecDepth 100000 in
theorem fnX12_85 : am_FN RX12 85 11 33 2 := ⟨TX12, 65, tyX12, .array .long, cb11, rfl, by decide, by decide +kernel, fun w => absurd w (by decide), fun _ _ => ⟨rfl, rfl⟩, am_in6 78 rfl rfl⟩
set_option maxRecDepth 100000 in
theorem fnX12_88 : am_FN RX12 88 11 34 2 := ⟨TX12, 65, tyX12, .array .boolean, cb11, rfl, by decide, by decide +kernel, fun w => absurd w (by decide), fun _ _ => ⟨rfl, rfl⟩, am_in6 79 rfl rfl⟩
set_option maxRecDepth 100000 in
theorem fnX12_91 : am_FN RX12 91 11 35 2 := ⟨TX12, 65, tyX12, .array .int, cb11, rfl, by decide, by decide +kernel, fun w => absurd w (by decide), fun _ _ => ⟨rfl, rfl⟩, am_in6 80 rfl rfl⟩
set_option maxRecDepth 100000 in
theorem fnX12_94 : am_FN RX12 94 11 36 2 := ⟨TX12, 65, tyX12, .array .boolean, cb11, rfl, by decide, by decide +kernel, fun w => absurd w (by decide), fun _ _ => ⟨rfl, rfl⟩, am_in6 81 rfl rfl⟩
set_option maxRecDepth 100000 in
theorem fnX12_97 : am_FN RX12 97 11 37 2 := ⟨TX12, 65, tyX12, .array .boolean, cb11, rfl, by decide, by decide +kernel, fun w => absurd w (by decide), fun _ _ => ⟨rfl, rfl⟩, am_in6 82 rfl rfl⟩
set_option maxRecDepth 100000 in
theorem fnX12_100 : am_FN RX12 100 11 38 2 := ⟨TX12, 65, tyX12, .array .int, cb11, rfl, by decide, by decide +kernel, fun w => absurd w (by decide), fun _ _ => ⟨rfl, rfl⟩, am_in6 83 rfl rfl⟩
set_option maxRecDepth 100000 in
theorem fnX12_103 : am_FN RX12 103 11 39 2 := ⟨TX12, 65, tyX12, .array .boolean, cb11, rfl, by decide, by decide +kernel, fun w => absurd w (by decide), fun _ _ => ⟨rfl, rfl⟩, am_in6 84 rfl rfl⟩
set_option maxRecDepth 100000 in
theorem fnX12_106 : am_FN RX12 106 11 41 2 := ⟨TX12, 65, tyX12, .array .int, cb11, rfl, by decide, by decide +kernel, fun w => absurd w (by decide), fun _ _ => ⟨rfl, rfl⟩, am_in6 86 rfl rfl⟩
set_option maxRecDepth 100000 in
theorem fnX12_109 : am_FN RX12 109 11 43 2 := ⟨TX12, 65, tyX12, .array .int, cb11, rfl, by decide, by decide +kernel, fun w => absurd w (by decide), fun _ _ => ⟨rfl, rfl⟩, am_in6 88 rfl rfl⟩
set_option maxRecDepth 100000 in
theorem fnX12_112 : am_FN RX12 112 11 44 2 := ⟨TX12, 65, tyX12, .array .int, cb11, rfl, by decide, by decide +kernel, fun w => absurd w (by decide), fun _ _ => ⟨rfl, rfl⟩, am_in6 89 rfl rfl⟩
set_option maxRecDepth 100000 in
theorem fnX12_115 : am_FN RX12 115 11 51 0 := ⟨TX12, 65, tyX12, .int, cb11, rfl, by decide, by decide +kernel, fun _ => rfl, fun w => absurd w (by decide), am_in6 96 rfl rfl⟩
set_option maxRecDepth 100000 in
theorem fnX12_118 : am_FN RX12 118 11 52 2 := ⟨TX12, 65, tyX12, .array .int, cb11, rfl, by decide, by decide +kernel, fun w => absurd w (by decide), fun _ _ => ⟨rfl, rfl⟩, am_in6 97 rfl rfl⟩
set_option maxRecDepth 100000 in
theorem fnX12_121 : am_FN RX12 121 11 53 2 := ⟨TX12, 65, tyX12, .array .int, cb11, rfl, by decide, by decide +kernel, fun w => absurd w (by decide), fun _ _ => ⟨rfl, rfl⟩, am_in6 98 rfl rfl⟩
set_option maxRecDepth 100000 in
theorem fnX12_124 : am_FN RX12 124 11 54 2 := ⟨TX12, 65, tyX12, .array .int, cb11, rfl, by decide, by decide +kernel, fun w => absurd w (by decide), fun _ _ => ⟨rfl, rfl⟩, am_in6 99 rfl rfl⟩
set_option maxRecDepth 100000 in
theorem fnX12_127 : am_FN RX12 127 11 55 2 := ⟨TX12, 65, tyX12, .array .int, cb11, rfl, by decide, by decide +kernel, fun w => absurd w (by decide), fun _ _ => ⟨rfl, rfl⟩, am_in6 100 rfl rfl⟩
set_option maxRecDepth 100000 in
theorem fnX12_130 : am_FN RX12 130 11 56 2 := ⟨TX12, 65, tyX12, .array .int, cb11, rfl, by decide, by decide +kernel, fun w => absurd w (by decide), fun _ _ => ⟨rfl, rfl⟩, am_in6 101 rfl rfl⟩
set_option maxRecDepth 100000 in
theorem fnX12_133 : am_FN RX12 133 11 57 2 := ⟨TX12, 65, tyX12, .array .int, cb11, rfl, by decide, by decide +kernel, fun w => absurd w (by decide), fun _ _ => ⟨rfl, rfl⟩, am_in6 102 rfl rfl⟩
set_option maxRecDepth 100000 in
theorem fnX12_136 : am_FN RX12 136 11 58 2 := ⟨TX12, 65, tyX12, .array .int, cb11, rfl, by decide, by decide +kernel, fun w => absurd w (by decide), fun _ _ => ⟨rfl, rfl⟩, am_in6 103 rfl rfl⟩
set_option maxRecDepth 100000 in
theorem fnX12_139 : am_FN RX12 139 11 59 2 := ⟨TX12, 65, tyX12, .array .long, cb11, rfl, by decide, by decide +kernel, fun w => absurd w (by decide), fun _ _ => ⟨rfl, rfl⟩, am_in6 104 rfl rfl⟩
set_option maxRecDepth 100000 in
theorem fnX12_142 : am_FN RX12 142 11 60 2 := ⟨TX12, 65, tyX12, .array .long, cb11, rfl, by decide, by decide +kernel, fun w => absurd w (by decide), fun _ _ => ⟨rfl, rfl⟩, am_in6 105 rfl rfl⟩
set_option maxRecDepth 100000 in
theorem fnX12_145 : am_FN RX12 145 11 61 2 := ⟨TX12, 65, tyX12, .array .byte, cb11, rfl, by decide, by decide +kernel, fun w => absurd w (by decide), fun _ _ => ⟨rfl, rfl⟩, am_in6 106 rfl rfl⟩
set_option maxRecDepth 100000 in
theorem fnX12_149 : am_FN RX12 149 11 62 2 := ⟨TX12, 65, tyX12, .array .byte, cb11, rfl, by decide, by decide +kernel, fun w => absurd w (by decide), fun _ _ => ⟨rfl, rfl⟩, am_in6 107 rfl rfl⟩
set_option maxRecDepth 100000 in
theorem mqX10 : am_VS RX10 52 mX10_begin := ⟨Or.inl (am_in1 231 rfl rfl), am_in1 232 rfl rfl, am_in1 233 rfl rfl⟩
set_option maxRecDepth 100000 in
theorem mqX12 : am_VS RX12 152 mX12_begins := ⟨Or.inl (am_in6 41 rfl rfl), am_in6 43 rfl rfl, am_in0 47 rfl rfl⟩
theorem df0 : ∀ j, j < 6 → ∃ t, (am_ft 0)[j]? = some t ∧ defaultValue (tyX0 j) = (if t = 0 then .int 0 else if t = 1 then .long 0 else .null) := by
  intro j hj
  have h := (show ∀ j, j < 6 → defaultValue (tyX0 j) = (if (am_ft 0).getD j 0 = 0 then .int 0 else if (am_ft 0).getD j 0 = 1 then .long 0 else .null) by decide +kernel) j hj
  have hl : j < (am_ft 0).length := hj
  exact ⟨(am_ft 0).getD j 0, by rw [List.getD_eq_getElem?_getD, List.getElem?_eq_getElem hl]; rfl, h⟩
theorem df1 : ∀ j, j < 6 → ∃ t, (am_ft 1)[j]? = some t ∧ defaultValue (tyX1 j) = (if t = 0 then .int 0 else if t = 1 then .long 0 else .null) := by
  intro j hj
  have h := (show ∀ j, j < 6 → defaultValue (tyX1 j) = (if (am_ft 1).getD j 0 = 0 then .int 0 else if (am_ft 1).getD j 0 = 1 then .long 0 else .null) by decide +kernel) j hj
  have hl : j < (am_ft 1).length := hj
  exact ⟨(am_ft 1).getD j 0, by rw [List.getD_eq_getElem?_getD, List.getElem?_eq_getElem hl]; rfl, h⟩
theorem df2 : ∀ j, j < 6 → ∃ t, (am_ft 2)[j]? = some t ∧ defaultValue (tyX2 j) = (if t = 0 then .int 0 else if t = 1 then .long 0 else .null) := by
  intro j hj
  have h := (show ∀ j, j < 6 → defaultValue (tyX2 j) = (if (am_ft 2).getD j 0 = 0 then .int 0 else if (am_ft 2).getD j 0 = 1 then .long 0 else .null) by decide +kernel) j hj
  have hl : j < (am_ft 2).length := hj
  exact ⟨(am_ft 2).getD j 0, by rw [List.getD_eq_getElem?_getD, List.getElem?_eq_getElem hl]; rfl, h⟩
theorem df3 : ∀ j, j < 8 → ∃ t, (am_ft 3)[j]? = some t ∧ defaultValue (tyX3 j) = (if t = 0 then .int 0 else if t = 1 then .long 0 else .null) := by
  intro j hj
  have h := (show ∀ j, j < 8 → defaultValue (tyX3 j) = (if (am_ft 3).getD j 0 = 0 then .int 0 else if (am_ft 3).getD j 0 = 1 then .long 0 else .null) by decide +kernel) j hj
  have hl : j < (am_ft 3).length := hj
  exact ⟨(am_ft 3).getD j 0, by rw [List.getD_eq_getElem?_getD, List.getElem?_eq_getElem hl]; rfl, h⟩
theorem df4 : ∀ j, j < 5 → ∃ t, (am_ft 4)[j]? = some t ∧ defaultValue (tyX5 j) = (if t = 0 then .int 0 else if t = 1 then .long 0 else .null) := by
  intro j hj
  have h := (show ∀ j, j < 5 → defaultValue (tyX5 j) = (if (am_ft 4).getD j 0 = 0 then .int 0 else if (am_ft 4).getD j 0 = 1 then .long 0 else .null) by decide +kernel) j hj
  have hl : j < (am_ft 4).length := hj
  exact ⟨(am_ft 4).getD j 0, by rw [List.getD_eq_getElem?_getD, List.getElem?_eq_getElem hl]; rfl, h⟩
theorem df5 : ∀ j, j < 11 → ∃ t, (am_ft 5)[j]? = some t ∧ defaultValue (tyX6 j) = (if t = 0 then .int 0 else if t = 1 then .long 0 else .null) := by
  intro j hj
  have h := (show ∀ j, j < 11 → defaultValue (tyX6 j) = (if (am_ft 5).getD j 0 = 0 then .int 0 else if (am_ft 5).getD j 0 = 1 then .long 0 else .null) by decide +kernel) j hj
  have hl : j < (am_ft 5).length := hj
  exact ⟨(am_ft 5).getD j 0, by rw [List.getD_eq_getElem?_getD, List.getElem?_eq_getElem hl]; rfl, h⟩
theorem df6 : ∀ j, j < 9 → ∃ t, (am_ft 6)[j]? = some t ∧ defaultValue (tyX7 j) = (if t = 0 then .int 0 else if t = 1 then .long 0 else .null) := by
  intro j hj
  have h := (show ∀ j, j < 9 → defaultValue (tyX7 j) = (if (am_ft 6).getD j 0 = 0 then .int 0 else if (am_ft 6).getD j 0 = 1 then .long 0 else .null) by decide +kernel) j hj
  have hl : j < (am_ft 6).length := hj
  exact ⟨(am_ft 6).getD j 0, by rw [List.getD_eq_getElem?_getD, List.getElem?_eq_getElem hl]; rfl, h⟩
theorem df7 : ∀ j, j < 1 → ∃ t, (am_ft 7)[j]? = some t ∧ defaultValue (tyX8 j) = (if t = 0 then .int 0 else if t = 1 then .long 0 else .null) := by
  intro j hj
  have h := (show ∀ j, j < 1 → defaultValue (tyX8 j) = (if (am_ft 7).getD j 0 = 0 then .int 0 else if (am_ft 7).getD j 0 = 1 then .long 0 else .null) by decide +kernel) j hj
  have hl : j < (am_ft 7).length := hj
  exact ⟨(am_ft 7).getD j 0, by rw [List.getD_eq_getElem?_getD, List.getElem?_eq_getElem hl]; rfl, h⟩
theorem df8 : ∀ j, j < 4 → ∃ t, (am_ft 8)[j]? = some t ∧ defaultValue (tyX9 j) = (if t = 0 then .int 0 else if t = 1 then .long 0 else .null) := by
  intro j hj
  have h := (show ∀ j, j < 4 → defaultValue (tyX9 j) = (if (am_ft 8).getD j 0 = 0 then .int 0 else if (am_ft 8).getD j 0 = 1 then .long 0 else .null) by decide +kernel) j hj
  have hl : j < (am_ft 8).length := hj
  exact ⟨(am_ft 8).getD j 0, by rw [List.getD_eq_getElem?_getD, List.getElem?_eq_getElem hl]; rfl, h⟩
theorem df9 : ∀ j, j < 14 → ∃ t, (am_ft 9)[j]? = some t ∧ defaultValue (tyX10 j) = (if t = 0 then .int 0 else if t = 1 then .long 0 else .null) := by
  intro j hj
  have h := (show ∀ j, j < 14 → defaultValue (tyX10 j) = (if (am_ft 9).getD j 0 = 0 then .int 0 else if (am_ft 9).getD j 0 = 1 then .long 0 else .null) by decide +kernel) j hj
  have hl : j < (am_ft 9).length := hj
  exact ⟨(am_ft 9).getD j 0, by rw [List.getD_eq_getElem?_getD, List.getElem?_eq_getElem hl]; rfl, h⟩
theorem df10 : ∀ j, j < 10 → ∃ t, (am_ft 10)[j]? = some t ∧ defaultValue (tyX11 j) = (if t = 0 then .int 0 else if t = 1 then .long 0 else .null) := by
  intro j hj
  have h := (show ∀ j, j < 10 → defaultValue (tyX11 j) = (if (am_ft 10).getD j 0 = 0 then .int 0 else if (am_ft 10).getD j 0 = 1 then .long 0 else .null) by decide +kernel) j hj
  have hl : j < (am_ft 10).length := hj
  exact ⟨(am_ft 10).getD j 0, by rw [List.getD_eq_getElem?_getD, List.getElem?_eq_getElem hl]; rfl, h⟩
theorem df11 : ∀ j, j < 65 → ∃ t, (am_ft 11)[j]? = some t ∧ defaultValue (tyX12 j) = (if t = 0 then .int 0 else if t = 1 then .long 0 else .null) := by
  intro j hj
  have h := (show ∀ j, j < 65 → defaultValue (tyX12 j) = (if (am_ft 11).getD j 0 = 0 then .int 0 else if (am_ft 11).getD j 0 = 1 then .long 0 else .null) by decide +kernel) j hj
  have hl : j < (am_ft 11).length := hj
  exact ⟨(am_ft 11).getD j 0, by rw [List.getD_eq_getElem?_getD, List.getElem?_eq_getElem hl]; rfl, h⟩
set_option maxRecDepth 100000 in
set_option maxHeartbeats 4000000 in
theorem i_X9_2_0 {M : am_I} {N : am_N} {post : am_I → am_N → Prop} (hz : Zr 3 M N) (h : post (tabM 0 400 5 M) N) : jn 1 mX9_init 1 2000 (AL.take 3) (UL.drop 128) 0 [(0, .inr (.inr (2, 0, 0))), (1, .inl 400), (2, .inl 5)] [] M N (AL.take 4) (UL.drop 127) post := by
  refine n_aload_n 0 dX9_init_0 rfl ?_
  refine n_objI dX9_init_1 (am_in1 43 rfl rfl) (am_in1 30 rfl rfl) (am_in1 31 rfl rfl) (by decide) (by decide) ?_
  refine n_aload_n 0 dX9_init_4 rfl ?_
  refine n_iload_n 1 dX9_init_5 rfl ?_
  refine n_putI dX9_init_6 fnX9_7 (by decide +kernel) rfl ?_
  have za1 := Zr.u (a := (2, 0, 0)) (i := 2) (x := 400) hz (by decide +kernel)
  refine n_aload_n 0 dX9_init_9 rfl ?_
  refine n_iload_n 2 dX9_init_10 rfl ?_
  refine n_putI dX9_init_11 fnX9_13 (by decide +kernel) rfl ?_
  have za2 := Zr.u (a := (2, 0, 0)) (i := 1) (x := 5) za1 (by decide +kernel)
  refine n_aload_n 0 dX9_init_14 rfl ?_
  refine n_iload_n 1 dX9_init_15 rfl ?_
  refine n_iload_n 2 dX9_init_16 rfl ?_
  refine n_imul dX9_init_17 ?_
  rw [show (400 : Int32) * 5 = 2000 by decide]
  refine x_ints (k := 3) (nc := 0) (ns := 0) (c0 := (2, 0, 1)) (n := 2000) dX9_init_18 (am_in1 61 rfl rfl) rfl (by decide) (by decide) rfl (by decide +kernel) za2 ?_
  have za3 := za2.mono (show 3 ≤ 4 by decide)
  refine x_putR dX9_init_20 fnX9_16 (by decide +kernel) rfl rfl (show ((2, 0, 0), 0) :: UL.drop 128 = UL.drop 127 from rfl) ?_
  refine n_aload_n 0 dX9_init_23 rfl ?_
  refine n_iconst (v := 0) dX9_init_24 (by decide) ?_
  refine n_putI dX9_init_25 fnX9_20 (by decide +kernel) rfl ?_
  have za4 := Zr.u (a := (2, 0, 0)) (i := 3) (x := 0) za3 (by decide +kernel)
  exact n_ret dX9_init_28 h
set_option maxRecDepth 100000 in
set_option maxHeartbeats 4000000 in
theorem i_X9_2_1 {M : am_I} {N : am_N} {post : am_I → am_N → Prop} (hz : Zr 5 M N) (h : post (tabM 1 30 3 M) N) : jn 1 mX9_init 1 90 (AL.take 5) (UL.drop 126) 0 [(0, .inr (.inr (2, 1, 0))), (1, .inl 30), (2, .inl 3)] [] M N (AL.take 6) (UL.drop 125) post := by
  refine n_aload_n 0 dX9_init_0 rfl ?_
  refine n_objI dX9_init_1 (am_in1 43 rfl rfl) (am_in1 30 rfl rfl) (am_in1 31 rfl rfl) (by decide) (by decide) ?_
  refine n_aload_n 0 dX9_init_4 rfl ?_
  refine n_iload_n 1 dX9_init_5 rfl ?_
  refine n_putI dX9_init_6 fnX9_7 (by decide +kernel) rfl ?_
  have za1 := Zr.u (a := (2, 1, 0)) (i := 2) (x := 30) hz (by decide +kernel)
  refine n_aload_n 0 dX9_init_9 rfl ?_
  refine n_iload_n 2 dX9_init_10 rfl ?_
  refine n_putI dX9_init_11 fnX9_13 (by decide +kernel) rfl ?_
  have za2 := Zr.u (a := (2, 1, 0)) (i := 1) (x := 3) za1 (by decide +kernel)
  refine n_aload_n 0 dX9_init_14 rfl ?_
  refine n_iload_n 1 dX9_init_15 rfl ?_
  refine n_iload_n 2 dX9_init_16 rfl ?_
  refine n_imul dX9_init_17 ?_
  rw [show (30 : Int32) * 3 = 90 by decide]
  refine x_ints (k := 5) (nc := 0) (ns := 0) (c0 := (2, 1, 1)) (n := 90) dX9_init_18 (am_in1 61 rfl rfl) rfl (by decide) (by decide) rfl (by decide +kernel) za2 ?_
  have za3 := za2.mono (show 5 ≤ 6 by decide)
  refine x_putR dX9_init_20 fnX9_16 (by decide +kernel) rfl rfl (show ((2, 1, 0), 0) :: UL.drop 126 = UL.drop 125 from rfl) ?_
  refine n_aload_n 0 dX9_init_23 rfl ?_
  refine n_iconst (v := 0) dX9_init_24 (by decide) ?_
  refine n_putI dX9_init_25 fnX9_20 (by decide +kernel) rfl ?_
  have za4 := Zr.u (a := (2, 1, 0)) (i := 3) (x := 0) za3 (by decide +kernel)
  exact n_ret dX9_init_28 h
set_option maxRecDepth 100000 in
set_option maxHeartbeats 4000000 in
theorem i_X9_2_2 {M : am_I} {N : am_N} {post : am_I → am_N → Prop} (hz : Zr 7 M N) (h : post (tabM 2 8 5 M) N) : jn 1 mX9_init 1 40 (AL.take 7) (UL.drop 124) 0 [(0, .inr (.inr (2, 2, 0))), (1, .inl 8), (2, .inl 5)] [] M N (AL.take 8) (UL.drop 123) post := by
  refine n_aload_n 0 dX9_init_0 rfl ?_
  refine n_objI dX9_init_1 (am_in1 43 rfl rfl) (am_in1 30 rfl rfl) (am_in1 31 rfl rfl) (by decide) (by decide) ?_
  refine n_aload_n 0 dX9_init_4 rfl ?_
  refine n_iload_n 1 dX9_init_5 rfl ?_
  refine n_putI dX9_init_6 fnX9_7 (by decide +kernel) rfl ?_
  have za1 := Zr.u (a := (2, 2, 0)) (i := 2) (x := 8) hz (by decide +kernel)
  refine n_aload_n 0 dX9_init_9 rfl ?_
  refine n_iload_n 2 dX9_init_10 rfl ?_
  refine n_putI dX9_init_11 fnX9_13 (by decide +kernel) rfl ?_
  have za2 := Zr.u (a := (2, 2, 0)) (i := 1) (x := 5) za1 (by decide +kernel)
  refine n_aload_n 0 dX9_init_14 rfl ?_
  refine n_iload_n 1 dX9_init_15 rfl ?_
  refine n_iload_n 2 dX9_init_16 rfl ?_
  refine n_imul dX9_init_17 ?_
  rw [show (8 : Int32) * 5 = 40 by decide]
  refine x_ints (k := 7) (nc := 0) (ns := 0) (c0 := (2, 2, 1)) (n := 40) dX9_init_18 (am_in1 61 rfl rfl) rfl (by decide) (by decide) rfl (by decide +kernel) za2 ?_
  have za3 := za2.mono (show 7 ≤ 8 by decide)
  refine x_putR dX9_init_20 fnX9_16 (by decide +kernel) rfl rfl (show ((2, 2, 0), 0) :: UL.drop 124 = UL.drop 123 from rfl) ?_
  refine n_aload_n 0 dX9_init_23 rfl ?_
  refine n_iconst (v := 0) dX9_init_24 (by decide) ?_
  refine n_putI dX9_init_25 fnX9_20 (by decide +kernel) rfl ?_
  have za4 := Zr.u (a := (2, 2, 0)) (i := 3) (x := 0) za3 (by decide +kernel)
  exact n_ret dX9_init_28 h
set_option maxRecDepth 100000 in
set_option maxHeartbeats 4000000 in
theorem i_X9_2_3 {M : am_I} {N : am_N} {post : am_I → am_N → Prop} (hz : Zr 9 M N) (h : post (tabM 3 60 3 M) N) : jn 1 mX9_init 1 180 (AL.take 9) (UL.drop 122) 0 [(0, .inr (.inr (2, 3, 0))), (1, .inl 60), (2, .inl 3)] [] M N (AL.take 10) (UL.drop 121) post := by
  refine n_aload_n 0 dX9_init_0 rfl ?_
  refine n_objI dX9_init_1 (am_in1 43 rfl rfl) (am_in1 30 rfl rfl) (am_in1 31 rfl rfl) (by decide) (by decide) ?_
  refine n_aload_n 0 dX9_init_4 rfl ?_
  refine n_iload_n 1 dX9_init_5 rfl ?_
  refine n_putI dX9_init_6 fnX9_7 (by decide +kernel) rfl ?_
  have za1 := Zr.u (a := (2, 3, 0)) (i := 2) (x := 60) hz (by decide +kernel)
  refine n_aload_n 0 dX9_init_9 rfl ?_
  refine n_iload_n 2 dX9_init_10 rfl ?_
  refine n_putI dX9_init_11 fnX9_13 (by decide +kernel) rfl ?_
  have za2 := Zr.u (a := (2, 3, 0)) (i := 1) (x := 3) za1 (by decide +kernel)
  refine n_aload_n 0 dX9_init_14 rfl ?_
  refine n_iload_n 1 dX9_init_15 rfl ?_
  refine n_iload_n 2 dX9_init_16 rfl ?_
  refine n_imul dX9_init_17 ?_
  rw [show (60 : Int32) * 3 = 180 by decide]
  refine x_ints (k := 9) (nc := 0) (ns := 0) (c0 := (2, 3, 1)) (n := 180) dX9_init_18 (am_in1 61 rfl rfl) rfl (by decide) (by decide) rfl (by decide +kernel) za2 ?_
  have za3 := za2.mono (show 9 ≤ 10 by decide)
  refine x_putR dX9_init_20 fnX9_16 (by decide +kernel) rfl rfl (show ((2, 3, 0), 0) :: UL.drop 122 = UL.drop 121 from rfl) ?_
  refine n_aload_n 0 dX9_init_23 rfl ?_
  refine n_iconst (v := 0) dX9_init_24 (by decide) ?_
  refine n_putI dX9_init_25 fnX9_20 (by decide +kernel) rfl ?_
  have za4 := Zr.u (a := (2, 3, 0)) (i := 3) (x := 0) za3 (by decide +kernel)
  exact n_ret dX9_init_28 h
set_option maxRecDepth 100000 in
set_option maxHeartbeats 4000000 in
theorem i_X9_2_4 {M : am_I} {N : am_N} {post : am_I → am_N → Prop} (hz : Zr 11 M N) (h : post (tabM 4 5 6 M) N) : jn 1 mX9_init 1 30 (AL.take 11) (UL.drop 120) 0 [(0, .inr (.inr (2, 4, 0))), (1, .inl 5), (2, .inl 6)] [] M N (AL.take 12) (UL.drop 119) post := by
  refine n_aload_n 0 dX9_init_0 rfl ?_
  refine n_objI dX9_init_1 (am_in1 43 rfl rfl) (am_in1 30 rfl rfl) (am_in1 31 rfl rfl) (by decide) (by decide) ?_
  refine n_aload_n 0 dX9_init_4 rfl ?_
  refine n_iload_n 1 dX9_init_5 rfl ?_
  refine n_putI dX9_init_6 fnX9_7 (by decide +kernel) rfl ?_
  have za1 := Zr.u (a := (2, 4, 0)) (i := 2) (x := 5) hz (by decide +kernel)
  refine n_aload_n 0 dX9_init_9 rfl ?_
  refine n_iload_n 2 dX9_init_10 rfl ?_
  refine n_putI dX9_init_11 fnX9_13 (by decide +kernel) rfl ?_
  have za2 := Zr.u (a := (2, 4, 0)) (i := 1) (x := 6) za1 (by decide +kernel)
  refine n_aload_n 0 dX9_init_14 rfl ?_
  refine n_iload_n 1 dX9_init_15 rfl ?_
  refine n_iload_n 2 dX9_init_16 rfl ?_
  refine n_imul dX9_init_17 ?_
  rw [show (5 : Int32) * 6 = 30 by decide]
  refine x_ints (k := 11) (nc := 0) (ns := 0) (c0 := (2, 4, 1)) (n := 30) dX9_init_18 (am_in1 61 rfl rfl) rfl (by decide) (by decide) rfl (by decide +kernel) za2 ?_
  have za3 := za2.mono (show 11 ≤ 12 by decide)
  refine x_putR dX9_init_20 fnX9_16 (by decide +kernel) rfl rfl (show ((2, 4, 0), 0) :: UL.drop 120 = UL.drop 119 from rfl) ?_
  refine n_aload_n 0 dX9_init_23 rfl ?_
  refine n_iconst (v := 0) dX9_init_24 (by decide) ?_
  refine n_putI dX9_init_25 fnX9_20 (by decide +kernel) rfl ?_
  have za4 := Zr.u (a := (2, 4, 0)) (i := 3) (x := 0) za3 (by decide +kernel)
  exact n_ret dX9_init_28 h
set_option maxRecDepth 100000 in
set_option maxHeartbeats 4000000 in
theorem i_X9_2_5 {M : am_I} {N : am_N} {post : am_I → am_N → Prop} (hz : Zr 13 M N) (h : post (tabM 5 40 1 M) N) : jn 1 mX9_init 1 40 (AL.take 13) (UL.drop 118) 0 [(0, .inr (.inr (2, 5, 0))), (1, .inl 40), (2, .inl 1)] [] M N (AL.take 14) (UL.drop 117) post := by
  refine n_aload_n 0 dX9_init_0 rfl ?_
  refine n_objI dX9_init_1 (am_in1 43 rfl rfl) (am_in1 30 rfl rfl) (am_in1 31 rfl rfl) (by decide) (by decide) ?_
  refine n_aload_n 0 dX9_init_4 rfl ?_
  refine n_iload_n 1 dX9_init_5 rfl ?_
  refine n_putI dX9_init_6 fnX9_7 (by decide +kernel) rfl ?_
  have za1 := Zr.u (a := (2, 5, 0)) (i := 2) (x := 40) hz (by decide +kernel)
  refine n_aload_n 0 dX9_init_9 rfl ?_
  refine n_iload_n 2 dX9_init_10 rfl ?_
  refine n_putI dX9_init_11 fnX9_13 (by decide +kernel) rfl ?_
  have za2 := Zr.u (a := (2, 5, 0)) (i := 1) (x := 1) za1 (by decide +kernel)
  refine n_aload_n 0 dX9_init_14 rfl ?_
  refine n_iload_n 1 dX9_init_15 rfl ?_
  refine n_iload_n 2 dX9_init_16 rfl ?_
  refine n_imul dX9_init_17 ?_
  rw [show (40 : Int32) * 1 = 40 by decide]
  refine x_ints (k := 13) (nc := 0) (ns := 0) (c0 := (2, 5, 1)) (n := 40) dX9_init_18 (am_in1 61 rfl rfl) rfl (by decide) (by decide) rfl (by decide +kernel) za2 ?_
  have za3 := za2.mono (show 13 ≤ 14 by decide)
  refine x_putR dX9_init_20 fnX9_16 (by decide +kernel) rfl rfl (show ((2, 5, 0), 0) :: UL.drop 118 = UL.drop 117 from rfl) ?_
  refine n_aload_n 0 dX9_init_23 rfl ?_
  refine n_iconst (v := 0) dX9_init_24 (by decide) ?_
  refine n_putI dX9_init_25 fnX9_20 (by decide +kernel) rfl ?_
  have za4 := Zr.u (a := (2, 5, 0)) (i := 3) (x := 0) za3 (by decide +kernel)
  exact n_ret dX9_init_28 h
set_option maxRecDepth 100000 in
set_option maxHeartbeats 4000000 in
theorem i_X0_0_0 {M : am_I} {N : am_N} {post : am_I → am_N → Prop} (hz : Zr 2 M N) (h : post (bookM M) N) : jn 2 mX0_init 12 2404 (AL.take 2) (UL.drop 128) 0 [(0, .inr (.inr (0, 0, 1)))] [] M N (AL.take 14) (UL.drop 116) post := by
  refine n_aload_n 0 dX0_init_0 rfl ?_
  refine n_objI dX0_init_1 (am_in1 37 rfl rfl) (am_in1 30 rfl rfl) (am_in1 31 rfl rfl) (by decide) (by decide) ?_
  refine n_aload_n 0 dX0_init_4 rfl ?_
  refine x_new (k := 2) (nc := 11) (ns := 2400) (c0 := (2, 0, 0)) dX0_init_5 cb8 (am_in1 38 rfl rfl) (am_in1 39 rfl rfl) (am_in1 3 rfl rfl) rfl df8 rfl (by decide +kernel) hz ?_
  have za1 := hz.mono (show 2 ≤ 3 by decide)
  refine n_dup dX0_init_8 rfl ?_
  refine n_sipush (v := 400) dX0_init_9 (by decide) ?_
  refine n_iconst (v := 5) dX0_init_12 (by decide) ?_
  refine x_call (k := 3) (k1 := 4) (nc := 10) (ns := 400) (nc1 := 1) (ns1 := 2000) (U1 := UL.drop 127) (a := (2, 0, 0)) (As := [.inl 400, .inl 5]) (st := [.inr (.inr (2, 0, 0)), .inr (.inr (0, 0, 1))]) dX0_init_13 ⟨Or.inl (am_in1 40 rfl rfl), am_in1 41 rfl rfl⟩ mbX9_init rfl rfl rfl rfl (by decide) (by decide) (show 1 < 2 by decide) (i_X9_2_0 (post := fun M1 N1 => M1 = tabM 0 400 5 (M) ∧ N1 = N) za1 ⟨rfl, rfl⟩) (by decide) (by decide) (by decide +kernel) (by decide +kernel) (fun M13 N13 hp => ?_)
  rw [hp.1, hp.2]
  have za2 := Zr.tab (t := 0) (mo := 400) (wi := 5) (by decide +kernel) (za1.mono (show 3 ≤ 4 by decide))
  refine x_putR dX0_init_16 fnX0_14 (by decide +kernel) rfl rfl (show ((0, 0, 1), 0) :: UL.drop 127 = UL.drop 126 from rfl) ?_
  refine n_aload_n 0 dX0_init_19 rfl ?_
  refine x_new (k := 4) (nc := 9) (ns := 396) (c0 := (2, 1, 0)) dX0_init_20 cb8 (am_in1 38 rfl rfl) (am_in1 39 rfl rfl) (am_in1 3 rfl rfl) rfl df8 rfl (by decide +kernel) za2 ?_
  have za3 := za2.mono (show 4 ≤ 5 by decide)
  refine n_dup dX0_init_23 rfl ?_
  refine n_bipush (v := 30) dX0_init_24 (by decide) ?_
  refine n_iconst (v := 3) dX0_init_26 (by decide) ?_
  refine x_call (k := 5) (k1 := 6) (nc := 8) (ns := 306) (nc1 := 1) (ns1 := 90) (U1 := UL.drop 125) (a := (2, 1, 0)) (As := [.inl 30, .inl 3]) (st := [.inr (.inr (2, 1, 0)), .inr (.inr (0, 0, 1))]) dX0_init_27 ⟨Or.inl (am_in1 40 rfl rfl), am_in1 41 rfl rfl⟩ mbX9_init rfl rfl rfl rfl (by decide) (by decide) (show 1 < 2 by decide) (i_X9_2_1 (post := fun M1 N1 => M1 = tabM 1 30 3 (tabM 0 400 5 (M)) ∧ N1 = N) za3 ⟨rfl, rfl⟩) (by decide) (by decide) (by decide +kernel) (by decide +kernel) (fun M27 N27 hp => ?_)
  rw [hp.1, hp.2]
  have za4 := Zr.tab (t := 1) (mo := 30) (wi := 3) (by decide +kernel) (za3.mono (show 5 ≤ 6 by decide))
  refine x_putR dX0_init_30 fnX0_20 (by decide +kernel) rfl rfl (show ((0, 0, 1), 1) :: UL.drop 125 = UL.drop 124 from rfl) ?_
  refine n_aload_n 0 dX0_init_33 rfl ?_
  refine x_new (k := 6) (nc := 7) (ns := 302) (c0 := (2, 2, 0)) dX0_init_34 cb8 (am_in1 38 rfl rfl) (am_in1 39 rfl rfl) (am_in1 3 rfl rfl) rfl df8 rfl (by decide +kernel) za4 ?_
  have za5 := za4.mono (show 6 ≤ 7 by decide)
  refine n_dup dX0_init_37 rfl ?_
  refine n_bipush (v := 8) dX0_init_38 (by decide) ?_
  refine n_iconst (v := 5) dX0_init_40 (by decide) ?_
  refine x_call (k := 7) (k1 := 8) (nc := 6) (ns := 262) (nc1 := 1) (ns1 := 40) (U1 := UL.drop 123) (a := (2, 2, 0)) (As := [.inl 8, .inl 5]) (st := [.inr (.inr (2, 2, 0)), .inr (.inr (0, 0, 1))]) dX0_init_41 ⟨Or.inl (am_in1 40 rfl rfl), am_in1 41 rfl rfl⟩ mbX9_init rfl rfl rfl rfl (by decide) (by decide) (show 1 < 2 by decide) (i_X9_2_2 (post := fun M1 N1 => M1 = tabM 2 8 5 (tabM 1 30 3 (tabM 0 400 5 (M))) ∧ N1 = N) za5 ⟨rfl, rfl⟩) (by decide) (by decide) (by decide +kernel) (by decide +kernel) (fun M41 N41 hp => ?_)
  rw [hp.1, hp.2]
  have za6 := Zr.tab (t := 2) (mo := 8) (wi := 5) (by decide +kernel) (za5.mono (show 7 ≤ 8 by decide))
  refine x_putR dX0_init_44 fnX0_23 (by decide +kernel) rfl rfl (show ((0, 0, 1), 2) :: UL.drop 123 = UL.drop 122 from rfl) ?_
  refine n_aload_n 0 dX0_init_47 rfl ?_
  refine x_new (k := 8) (nc := 5) (ns := 258) (c0 := (2, 3, 0)) dX0_init_48 cb8 (am_in1 38 rfl rfl) (am_in1 39 rfl rfl) (am_in1 3 rfl rfl) rfl df8 rfl (by decide +kernel) za6 ?_
  have za7 := za6.mono (show 8 ≤ 9 by decide)
  refine n_dup dX0_init_51 rfl ?_
  refine n_bipush (v := 60) dX0_init_52 (by decide) ?_
  refine n_iconst (v := 3) dX0_init_54 (by decide) ?_
  refine x_call (k := 9) (k1 := 10) (nc := 4) (ns := 78) (nc1 := 1) (ns1 := 180) (U1 := UL.drop 121) (a := (2, 3, 0)) (As := [.inl 60, .inl 3]) (st := [.inr (.inr (2, 3, 0)), .inr (.inr (0, 0, 1))]) dX0_init_55 ⟨Or.inl (am_in1 40 rfl rfl), am_in1 41 rfl rfl⟩ mbX9_init rfl rfl rfl rfl (by decide) (by decide) (show 1 < 2 by decide) (i_X9_2_3 (post := fun M1 N1 => M1 = tabM 3 60 3 (tabM 2 8 5 (tabM 1 30 3 (tabM 0 400 5 (M)))) ∧ N1 = N) za7 ⟨rfl, rfl⟩) (by decide) (by decide) (by decide +kernel) (by decide +kernel) (fun M55 N55 hp => ?_)
  rw [hp.1, hp.2]
  have za8 := Zr.tab (t := 3) (mo := 60) (wi := 3) (by decide +kernel) (za7.mono (show 9 ≤ 10 by decide))
  refine x_putR dX0_init_58 fnX0_26 (by decide +kernel) rfl rfl (show ((0, 0, 1), 3) :: UL.drop 121 = UL.drop 120 from rfl) ?_
  refine n_aload_n 0 dX0_init_61 rfl ?_
  refine x_new (k := 10) (nc := 3) (ns := 74) (c0 := (2, 4, 0)) dX0_init_62 cb8 (am_in1 38 rfl rfl) (am_in1 39 rfl rfl) (am_in1 3 rfl rfl) rfl df8 rfl (by decide +kernel) za8 ?_
  have za9 := za8.mono (show 10 ≤ 11 by decide)
  refine n_dup dX0_init_65 rfl ?_
  refine n_iconst (v := 5) dX0_init_66 (by decide) ?_
  refine n_bipush (v := 6) dX0_init_67 (by decide) ?_
  refine x_call (k := 11) (k1 := 12) (nc := 2) (ns := 44) (nc1 := 1) (ns1 := 30) (U1 := UL.drop 119) (a := (2, 4, 0)) (As := [.inl 5, .inl 6]) (st := [.inr (.inr (2, 4, 0)), .inr (.inr (0, 0, 1))]) dX0_init_69 ⟨Or.inl (am_in1 40 rfl rfl), am_in1 41 rfl rfl⟩ mbX9_init rfl rfl rfl rfl (by decide) (by decide) (show 1 < 2 by decide) (i_X9_2_4 (post := fun M1 N1 => M1 = tabM 4 5 6 (tabM 3 60 3 (tabM 2 8 5 (tabM 1 30 3 (tabM 0 400 5 (M))))) ∧ N1 = N) za9 ⟨rfl, rfl⟩) (by decide) (by decide) (by decide +kernel) (by decide +kernel) (fun M69 N69 hp => ?_)
  rw [hp.1, hp.2]
  have za10 := Zr.tab (t := 4) (mo := 5) (wi := 6) (by decide +kernel) (za9.mono (show 11 ≤ 12 by decide))
  refine x_putR dX0_init_72 fnX0_29 (by decide +kernel) rfl rfl (show ((0, 0, 1), 4) :: UL.drop 119 = UL.drop 118 from rfl) ?_
  refine n_aload_n 0 dX0_init_75 rfl ?_
  refine x_new (k := 12) (nc := 1) (ns := 40) (c0 := (2, 5, 0)) dX0_init_76 cb8 (am_in1 38 rfl rfl) (am_in1 39 rfl rfl) (am_in1 3 rfl rfl) rfl df8 rfl (by decide +kernel) za10 ?_
  have za11 := za10.mono (show 12 ≤ 13 by decide)
  refine n_dup dX0_init_79 rfl ?_
  refine n_bipush (v := 40) dX0_init_80 (by decide) ?_
  refine n_iconst (v := 1) dX0_init_82 (by decide) ?_
  refine x_call (k := 13) (k1 := 14) (nc := 0) (ns := 0) (nc1 := 1) (ns1 := 40) (U1 := UL.drop 117) (a := (2, 5, 0)) (As := [.inl 40, .inl 1]) (st := [.inr (.inr (2, 5, 0)), .inr (.inr (0, 0, 1))]) dX0_init_83 ⟨Or.inl (am_in1 40 rfl rfl), am_in1 41 rfl rfl⟩ mbX9_init rfl rfl rfl rfl (by decide) (by decide) (show 1 < 2 by decide) (i_X9_2_5 (post := fun M1 N1 => M1 = tabM 5 40 1 (tabM 4 5 6 (tabM 3 60 3 (tabM 2 8 5 (tabM 1 30 3 (tabM 0 400 5 (M)))))) ∧ N1 = N) za11 ⟨rfl, rfl⟩) (by decide) (by decide) (by decide +kernel) (by decide +kernel) (fun M83 N83 hp => ?_)
  rw [hp.1, hp.2]
  have za12 := Zr.tab (t := 5) (mo := 40) (wi := 1) (by decide +kernel) (za11.mono (show 13 ≤ 14 by decide))
  refine x_putR dX0_init_86 fnX0_32 (by decide +kernel) rfl rfl (show ((0, 0, 1), 5) :: UL.drop 117 = UL.drop 116 from rfl) ?_
  exact n_ret dX0_init_89 h
set_option maxRecDepth 100000 in
set_option maxHeartbeats 4000000 in
theorem i_X5_0_0 {M : am_I} {N : am_N} {post : am_I → am_N → Prop} (hz : Zr 15 M N) (h : post M N) : jn 1 mX5_init 4 1152 (AL.take 15) (UL.drop 115) 0 [(0, .inr (.inr (0, 0, 2)))] [] M N (AL.take 19) (UL.drop 111) post := by
  refine n_aload_n 0 dX5_init_0 rfl ?_
  refine n_objI dX5_init_1 (am_in1 98 rfl rfl) (am_in1 30 rfl rfl) (am_in1 31 rfl rfl) (by decide) (by decide) ?_
  refine n_aload_n 0 dX5_init_4 rfl ?_
  refine n_sipush (v := 512) dX5_init_5 (by decide) ?_
  refine x_ints (k := 15) (nc := 3) (ns := 640) (c0 := (0, 0, 3)) (n := 512) dX5_init_8 (am_in1 61 rfl rfl) rfl (by decide) (by decide) rfl (by decide +kernel) hz ?_
  have za1 := hz.mono (show 15 ≤ 16 by decide)
  refine x_putR dX5_init_10 fnX5_9 (by decide +kernel) rfl rfl (show ((0, 0, 2), 0) :: UL.drop 115 = UL.drop 114 from rfl) ?_
  refine n_aload_n 0 dX5_init_13 rfl ?_
  refine n_sipush (v := 512) dX5_init_14 (by decide) ?_
  refine x_ints (k := 16) (nc := 2) (ns := 128) (c0 := (0, 0, 4)) (n := 512) dX5_init_17 (am_in1 61 rfl rfl) rfl (by decide) (by decide) rfl (by decide +kernel) za1 ?_
  have za2 := za1.mono (show 16 ≤ 17 by decide)
  refine x_putR dX5_init_19 fnX5_15 (by decide +kernel) rfl rfl (show ((0, 0, 2), 1) :: UL.drop 114 = UL.drop 113 from rfl) ?_
  refine n_aload_n 0 dX5_init_22 rfl ?_
  refine n_bipush (v := 64) dX5_init_23 (by decide) ?_
  refine x_ints (k := 17) (nc := 1) (ns := 64) (c0 := (0, 0, 5)) (n := 64) dX5_init_25 (am_in1 61 rfl rfl) rfl (by decide) (by decide) rfl (by decide +kernel) za2 ?_
  have za3 := za2.mono (show 17 ≤ 18 by decide)
  refine x_putR dX5_init_27 fnX5_18 (by decide +kernel) rfl rfl (show ((0, 0, 2), 2) :: UL.drop 113 = UL.drop 112 from rfl) ?_
  refine n_aload_n 0 dX5_init_30 rfl ?_
  refine n_bipush (v := 64) dX5_init_31 (by decide) ?_
  refine x_ints (k := 18) (nc := 0) (ns := 0) (c0 := (0, 0, 6)) (n := 64) dX5_init_33 (am_in1 61 rfl rfl) rfl (by decide) (by decide) rfl (by decide +kernel) za3 ?_
  have za4 := za3.mono (show 18 ≤ 19 by decide)
  refine x_putR dX5_init_35 fnX5_21 (by decide +kernel) rfl rfl (show ((0, 0, 2), 3) :: UL.drop 112 = UL.drop 111 from rfl) ?_
  exact n_ret dX5_init_38 h
set_option maxRecDepth 100000 in
set_option maxHeartbeats 4000000 in
theorem i_X2_1_0 {M : am_I} {N : am_N} {post : am_I → am_N → Prop} (hz : Zr 24 M N) (h : post M N) : jn 1 mX2_init 4 256 (AL.take 24) (UL.drop 105) 0 [(0, .inr (.inr (1, 0, 1)))] [] M N (AL.take 28) (UL.drop 101) post := by
  refine n_aload_n 0 dX2_init_0 rfl ?_
  refine n_objI dX2_init_1 (am_in1 126 rfl rfl) (am_in1 30 rfl rfl) (am_in1 31 rfl rfl) (by decide) (by decide) ?_
  refine n_aload_n 0 dX2_init_4 rfl ?_
  refine n_bipush (v := 64) dX2_init_5 (by decide) ?_
  refine x_ints (k := 24) (nc := 3) (ns := 192) (c0 := (1, 0, 2)) (n := 64) dX2_init_7 (am_in1 61 rfl rfl) rfl (by decide) (by decide) rfl (by decide +kernel) hz ?_
  have za1 := hz.mono (show 24 ≤ 25 by decide)
  refine x_putR dX2_init_9 fnX2_9 (by decide +kernel) rfl rfl (show ((1, 0, 1), 0) :: UL.drop 105 = UL.drop 104 from rfl) ?_
  refine n_aload_n 0 dX2_init_12 rfl ?_
  refine n_bipush (v := 64) dX2_init_13 (by decide) ?_
  refine x_ints (k := 25) (nc := 2) (ns := 128) (c0 := (1, 0, 3)) (n := 64) dX2_init_15 (am_in1 61 rfl rfl) rfl (by decide) (by decide) rfl (by decide +kernel) za1 ?_
  have za2 := za1.mono (show 25 ≤ 26 by decide)
  refine x_putR dX2_init_17 fnX2_15 (by decide +kernel) rfl rfl (show ((1, 0, 1), 1) :: UL.drop 104 = UL.drop 103 from rfl) ?_
  refine n_aload_n 0 dX2_init_20 rfl ?_
  refine n_bipush (v := 64) dX2_init_21 (by decide) ?_
  refine x_ints (k := 26) (nc := 1) (ns := 64) (c0 := (1, 0, 4)) (n := 64) dX2_init_23 (am_in1 61 rfl rfl) rfl (by decide) (by decide) rfl (by decide +kernel) za2 ?_
  have za3 := za2.mono (show 26 ≤ 27 by decide)
  refine x_putR dX2_init_25 fnX2_18 (by decide +kernel) rfl rfl (show ((1, 0, 1), 2) :: UL.drop 103 = UL.drop 102 from rfl) ?_
  refine n_aload_n 0 dX2_init_28 rfl ?_
  refine n_bipush (v := 64) dX2_init_29 (by decide) ?_
  refine x_ints (k := 27) (nc := 0) (ns := 0) (c0 := (1, 0, 5)) (n := 64) dX2_init_31 (am_in1 61 rfl rfl) rfl (by decide) (by decide) rfl (by decide +kernel) za3 ?_
  have za4 := za3.mono (show 27 ≤ 28 by decide)
  refine x_putR dX2_init_33 fnX2_21 (by decide +kernel) rfl rfl (show ((1, 0, 1), 3) :: UL.drop 102 = UL.drop 101 from rfl) ?_
  exact n_ret dX2_init_36 h
set_option maxRecDepth 100000 in
set_option maxHeartbeats 4000000 in
theorem i_X6_1_0 {M : am_I} {N : am_N} {post : am_I → am_N → Prop} (hz : Zr 29 M N) (h : post M N) : jn 1 mX6_init 7 645 (AL.take 29) (UL.drop 100) 0 [(0, .inr (.inr (1, 0, 6))), (1, .inr (.inr (0, 0, 1)))] [] M N (AL.take 36) (UL.drop 92) post := by
  refine n_aload_n 0 dX6_init_0 rfl ?_
  refine n_objI dX6_init_1 (am_in1 158 rfl rfl) (am_in1 30 rfl rfl) (am_in1 31 rfl rfl) (by decide) (by decide) ?_
  refine n_aload_n 0 dX6_init_4 rfl ?_
  refine n_bipush (v := 64) dX6_init_5 (by decide) ?_
  refine x_ints (k := 29) (nc := 6) (ns := 581) (c0 := (1, 0, 7)) (n := 64) dX6_init_7 (am_in1 61 rfl rfl) rfl (by decide) (by decide) rfl (by decide +kernel) hz ?_
  have za1 := hz.mono (show 29 ≤ 30 by decide)
  refine x_putR dX6_init_9 fnX6_9 (by decide +kernel) rfl rfl (show ((1, 0, 6), 1) :: UL.drop 100 = UL.drop 99 from rfl) ?_
  refine n_aload_n 0 dX6_init_12 rfl ?_
  refine n_bipush (v := 64) dX6_init_13 (by decide) ?_
  refine x_ints (k := 30) (nc := 5) (ns := 517) (c0 := (1, 0, 8)) (n := 64) dX6_init_15 (am_in1 61 rfl rfl) rfl (by decide) (by decide) rfl (by decide +kernel) za1 ?_
  have za2 := za1.mono (show 30 ≤ 31 by decide)
  refine x_putR dX6_init_17 fnX6_15 (by decide +kernel) rfl rfl (show ((1, 0, 6), 2) :: UL.drop 99 = UL.drop 98 from rfl) ?_
  refine n_aload_n 0 dX6_init_20 rfl ?_
  refine n_bipush (v := 64) dX6_init_21 (by decide) ?_
  refine x_ints (k := 31) (nc := 4) (ns := 453) (c0 := (1, 0, 9)) (n := 64) dX6_init_23 (am_in1 61 rfl rfl) rfl (by decide) (by decide) rfl (by decide +kernel) za2 ?_
  have za3 := za2.mono (show 31 ≤ 32 by decide)
  refine x_putR dX6_init_25 fnX6_18 (by decide +kernel) rfl rfl (show ((1, 0, 6), 3) :: UL.drop 98 = UL.drop 97 from rfl) ?_
  refine n_aload_n 0 dX6_init_28 rfl ?_
  refine n_bipush (v := 64) dX6_init_29 (by decide) ?_
  refine x_ints (k := 32) (nc := 3) (ns := 389) (c0 := (1, 0, 10)) (n := 64) dX6_init_31 (am_in1 61 rfl rfl) rfl (by decide) (by decide) rfl (by decide +kernel) za3 ?_
  have za4 := za3.mono (show 32 ≤ 33 by decide)
  refine x_putR dX6_init_33 fnX6_21 (by decide +kernel) rfl rfl (show ((1, 0, 6), 4) :: UL.drop 97 = UL.drop 96 from rfl) ?_
  refine n_aload_n 0 dX6_init_36 rfl ?_
  refine n_bipush (v := 64) dX6_init_37 (by decide) ?_
  refine x_ints (k := 33) (nc := 2) (ns := 325) (c0 := (1, 0, 11)) (n := 64) dX6_init_39 (am_in1 61 rfl rfl) rfl (by decide) (by decide) rfl (by decide +kernel) za4 ?_
  have za5 := za4.mono (show 33 ≤ 34 by decide)
  refine x_putR dX6_init_41 fnX6_24 (by decide +kernel) rfl rfl (show ((1, 0, 6), 5) :: UL.drop 96 = UL.drop 95 from rfl) ?_
  refine n_aload_n 0 dX6_init_44 rfl ?_
  refine n_sipush (v := 320) dX6_init_45 (by decide) ?_
  refine x_ints (k := 34) (nc := 1) (ns := 5) (c0 := (1, 0, 12)) (n := 320) dX6_init_48 (am_in1 61 rfl rfl) rfl (by decide) (by decide) rfl (by decide +kernel) za5 ?_
  have za6 := za5.mono (show 34 ≤ 35 by decide)
  refine x_putR dX6_init_50 fnX6_27 (by decide +kernel) rfl rfl (show ((1, 0, 6), 6) :: UL.drop 95 = UL.drop 94 from rfl) ?_
  refine n_aload_n 0 dX6_init_53 rfl ?_
  refine n_iconst (v := 5) dX6_init_54 (by decide) ?_
  refine x_longs (k := 35) (nc := 0) (ns := 0) (c0 := (1, 0, 13)) (n := 5) dX6_init_55 (am_in1 199 rfl rfl) rfl (by decide) (by decide) rfl (by decide +kernel) za6 ?_
  have za7 := za6.mono (show 35 ≤ 36 by decide)
  refine x_putR dX6_init_57 fnX6_30 (by decide +kernel) rfl rfl (show ((1, 0, 6), 7) :: UL.drop 94 = UL.drop 93 from rfl) ?_
  refine n_aload_n 0 dX6_init_60 rfl ?_
  refine n_aload_n 1 dX6_init_61 rfl ?_
  refine x_putR dX6_init_62 fnX6_34 (by decide +kernel) rfl rfl (show ((1, 0, 6), 0) :: UL.drop 93 = UL.drop 92 from rfl) ?_
  exact n_ret dX6_init_65 h
set_option maxRecDepth 100000 in
set_option maxHeartbeats 4000000 in
theorem i_X1_1_0 {M : am_I} {N : am_N} {post : am_I → am_N → Prop} (hz : Zr 37 M N) (h : post M N) : jn 1 mX1_init 5 40 (AL.take 37) (UL.drop 91) 0 [(0, .inr (.inr (1, 0, 14))), (1, .inr (.inr (0, 0, 1)))] [] M N (AL.take 42) (UL.drop 85) post := by
  refine n_aload_n 0 dX1_init_0 rfl ?_
  refine n_objI dX1_init_1 (am_in1 205 rfl rfl) (am_in1 30 rfl rfl) (am_in1 31 rfl rfl) (by decide) (by decide) ?_
  refine n_aload_n 0 dX1_init_4 rfl ?_
  refine n_bipush (v := 8) dX1_init_5 (by decide) ?_
  refine x_ints (k := 37) (nc := 4) (ns := 32) (c0 := (1, 0, 15)) (n := 8) dX1_init_7 (am_in1 61 rfl rfl) rfl (by decide) (by decide) rfl (by decide +kernel) hz ?_
  have za1 := hz.mono (show 37 ≤ 38 by decide)
  refine x_putR dX1_init_9 fnX1_9 (by decide +kernel) rfl rfl (show ((1, 0, 14), 1) :: UL.drop 91 = UL.drop 90 from rfl) ?_
  refine n_aload_n 0 dX1_init_12 rfl ?_
  refine n_bipush (v := 8) dX1_init_13 (by decide) ?_
  refine x_ints (k := 38) (nc := 3) (ns := 24) (c0 := (1, 0, 16)) (n := 8) dX1_init_15 (am_in1 61 rfl rfl) rfl (by decide) (by decide) rfl (by decide +kernel) za1 ?_
  have za2 := za1.mono (show 38 ≤ 39 by decide)
  refine x_putR dX1_init_17 fnX1_15 (by decide +kernel) rfl rfl (show ((1, 0, 14), 2) :: UL.drop 90 = UL.drop 89 from rfl) ?_
  refine n_aload_n 0 dX1_init_20 rfl ?_
  refine n_bipush (v := 8) dX1_init_21 (by decide) ?_
  refine x_ints (k := 39) (nc := 2) (ns := 16) (c0 := (1, 0, 17)) (n := 8) dX1_init_23 (am_in1 61 rfl rfl) rfl (by decide) (by decide) rfl (by decide +kernel) za2 ?_
  have za3 := za2.mono (show 39 ≤ 40 by decide)
  refine x_putR dX1_init_25 fnX1_18 (by decide +kernel) rfl rfl (show ((1, 0, 14), 3) :: UL.drop 89 = UL.drop 88 from rfl) ?_
  refine n_aload_n 0 dX1_init_28 rfl ?_
  refine n_bipush (v := 8) dX1_init_29 (by decide) ?_
  refine x_ints (k := 40) (nc := 1) (ns := 8) (c0 := (1, 0, 18)) (n := 8) dX1_init_31 (am_in1 61 rfl rfl) rfl (by decide) (by decide) rfl (by decide +kernel) za3 ?_
  have za4 := za3.mono (show 40 ≤ 41 by decide)
  refine x_putR dX1_init_33 fnX1_21 (by decide +kernel) rfl rfl (show ((1, 0, 14), 4) :: UL.drop 88 = UL.drop 87 from rfl) ?_
  refine n_aload_n 0 dX1_init_36 rfl ?_
  refine n_bipush (v := 8) dX1_init_37 (by decide) ?_
  refine x_longs (k := 41) (nc := 0) (ns := 0) (c0 := (1, 0, 19)) (n := 8) dX1_init_39 (am_in1 199 rfl rfl) rfl (by decide) (by decide) rfl (by decide +kernel) za4 ?_
  have za5 := za4.mono (show 41 ≤ 42 by decide)
  refine x_putR dX1_init_41 fnX1_24 (by decide +kernel) rfl rfl (show ((1, 0, 14), 5) :: UL.drop 87 = UL.drop 86 from rfl) ?_
  refine n_aload_n 0 dX1_init_44 rfl ?_
  refine n_aload_n 1 dX1_init_45 rfl ?_
  refine x_putR dX1_init_46 fnX1_28 (by decide +kernel) rfl rfl (show ((1, 0, 14), 0) :: UL.drop 86 = UL.drop 85 from rfl) ?_
  exact n_ret dX1_init_49 h
set_option maxRecDepth 100000 in
set_option maxHeartbeats 4000000 in
theorem i_X10_1_0 {M : am_I} {N : am_N} {post : am_I → am_N → Prop} (hz : Zr 20 M N) (h : ∀ M1 N1, BG 0 M N M1 N1 → post M1 N1) : jn 4 mX10_init 22 1088 (AL.take 20) (UL.drop 110) 0 [(0, .inr (.inr (1, 0, 0))), (1, .inr (.inr (0, 0, 1))), (2, .inr (.inr (0, 0, 2)))] [] M N (AL.take 42) (UL.drop 84) post := by
  refine n_aload_n 0 dX10_init_0 rfl ?_
  refine n_objI dX10_init_1 (am_in1 120 rfl rfl) (am_in1 30 rfl rfl) (am_in1 31 rfl rfl) (by decide) (by decide) ?_
  refine n_aload_n 0 dX10_init_4 rfl ?_
  refine n_bipush (v := 60) dX10_init_5 (by decide) ?_
  refine x_ints (k := 20) (nc := 21) (ns := 1028) (c0 := (1, 0, 20)) (n := 60) dX10_init_7 (am_in1 61 rfl rfl) rfl (by decide) (by decide) rfl (by decide +kernel) hz ?_
  have za1 := hz.mono (show 20 ≤ 21 by decide)
  refine x_putR dX10_init_9 fnX10_9 (by decide +kernel) rfl rfl (show ((1, 0, 0), 5) :: UL.drop 110 = UL.drop 109 from rfl) ?_
  refine n_aload_n 0 dX10_init_12 rfl ?_
  refine n_bipush (v := 60) dX10_init_13 (by decide) ?_
  refine x_ints (k := 21) (nc := 20) (ns := 968) (c0 := (1, 0, 21)) (n := 60) dX10_init_15 (am_in1 61 rfl rfl) rfl (by decide) (by decide) rfl (by decide +kernel) za1 ?_
  have za2 := za1.mono (show 21 ≤ 22 by decide)
  refine x_putR dX10_init_17 fnX10_15 (by decide +kernel) rfl rfl (show ((1, 0, 0), 6) :: UL.drop 109 = UL.drop 108 from rfl) ?_
  refine n_aload_n 0 dX10_init_20 rfl ?_
  refine n_iconst (v := 4) dX10_init_21 (by decide) ?_
  refine x_ints (k := 22) (nc := 19) (ns := 964) (c0 := (1, 0, 22)) (n := 4) dX10_init_22 (am_in1 61 rfl rfl) rfl (by decide) (by decide) rfl (by decide +kernel) za2 ?_
  have za3 := za2.mono (show 22 ≤ 23 by decide)
  refine x_putR dX10_init_24 fnX10_18 (by decide +kernel) rfl rfl (show ((1, 0, 0), 7) :: UL.drop 108 = UL.drop 107 from rfl) ?_
  refine n_aload_n 0 dX10_init_27 rfl ?_
  refine n_aload_n 1 dX10_init_28 rfl ?_
  refine x_putR dX10_init_29 fnX10_21 (by decide +kernel) rfl rfl (show ((1, 0, 0), 0) :: UL.drop 107 = UL.drop 106 from rfl) ?_
  refine n_aload_n 0 dX10_init_32 rfl ?_
  refine n_aload_n 2 dX10_init_33 rfl ?_
  refine x_putR dX10_init_34 fnX10_25 (by decide +kernel) rfl rfl (show ((1, 0, 0), 1) :: UL.drop 106 = UL.drop 105 from rfl) ?_
  refine n_aload_n 0 dX10_init_37 rfl ?_
  refine x_new (k := 23) (nc := 18) (ns := 958) (c0 := (1, 0, 1)) dX10_init_38 cb2 (am_in1 121 rfl rfl) (am_in1 122 rfl rfl) (am_in1 6 rfl rfl) rfl df2 rfl (by decide +kernel) za3 ?_
  have za4 := za3.mono (show 23 ≤ 24 by decide)
  refine n_dup dX10_init_41 rfl ?_
  refine x_call (k := 24) (k1 := 28) (nc := 14) (ns := 702) (nc1 := 4) (ns1 := 256) (U1 := UL.drop 101) (a := (1, 0, 1)) (As := []) (st := [.inr (.inr (1, 0, 1)), .inr (.inr (1, 0, 0))]) dX10_init_42 ⟨Or.inr ⟨"PloughField", am_inN1 123 rfl rfl⟩, am_in1 124 rfl rfl⟩ mbX2_init rfl rfl rfl rfl (by decide) (by decide) (show 1 < 4 by decide) (i_X2_1_0 (post := fun M1 N1 => M1 = (M) ∧ N1 = N) za4 ⟨rfl, rfl⟩) (by decide) (by decide) (by decide +kernel) (by decide +kernel) (fun M42 N42 hp => ?_)
  rw [hp.1, hp.2]
  have za5 :=  (za4.mono (show 24 ≤ 28 by decide))
  refine x_putR dX10_init_45 fnX10_32 (by decide +kernel) rfl rfl (show ((1, 0, 0), 2) :: UL.drop 101 = UL.drop 100 from rfl) ?_
  refine n_aload_n 0 dX10_init_48 rfl ?_
  refine x_new (k := 28) (nc := 13) (ns := 691) (c0 := (1, 0, 6)) dX10_init_49 cb5 (am_in1 153 rfl rfl) (am_in1 154 rfl rfl) (am_in1 7 rfl rfl) rfl df5 rfl (by decide +kernel) za5 ?_
  have za6 := za5.mono (show 28 ≤ 29 by decide)
  refine n_dup dX10_init_52 rfl ?_
  refine n_aload_n 1 dX10_init_53 rfl ?_
  refine x_call (k := 29) (k1 := 36) (nc := 6) (ns := 46) (nc1 := 7) (ns1 := 645) (U1 := UL.drop 92) (a := (1, 0, 6)) (As := [.inr (.inr (0, 0, 1))]) (st := [.inr (.inr (1, 0, 6)), .inr (.inr (1, 0, 0))]) dX10_init_54 ⟨Or.inl (am_in1 155 rfl rfl), am_in1 156 rfl rfl⟩ mbX6_init rfl rfl rfl rfl (by decide) (by decide) (show 1 < 4 by decide) (i_X6_1_0 (post := fun M1 N1 => M1 = (id (M)) ∧ N1 = N) za6 ⟨rfl, rfl⟩) (by decide) (by decide) (by decide +kernel) (by decide +kernel) (fun M54 N54 hp => ?_)
  rw [hp.1, hp.2]
  have za7 :=  (za6.mono (show 29 ≤ 36 by decide))
  refine x_putR dX10_init_57 fnX10_41 (by decide +kernel) rfl rfl (show ((1, 0, 0), 3) :: UL.drop 92 = UL.drop 91 from rfl) ?_
  refine n_aload_n 0 dX10_init_60 rfl ?_
  refine x_new (k := 36) (nc := 5) (ns := 40) (c0 := (1, 0, 14)) dX10_init_61 cb1 (am_in1 200 rfl rfl) (am_in1 201 rfl rfl) (am_in1 8 rfl rfl) rfl df1 rfl (by decide +kernel) za7 ?_
  have za8 := za7.mono (show 36 ≤ 37 by decide)
  refine n_dup dX10_init_64 rfl ?_
  refine n_aload_n 1 dX10_init_65 rfl ?_
  refine x_call (k := 37) (k1 := 42) (nc := 0) (ns := 0) (nc1 := 5) (ns1 := 40) (U1 := UL.drop 85) (a := (1, 0, 14)) (As := [.inr (.inr (0, 0, 1))]) (st := [.inr (.inr (1, 0, 14)), .inr (.inr (1, 0, 0))]) dX10_init_66 ⟨Or.inl (am_in1 202 rfl rfl), am_in1 203 rfl rfl⟩ mbX1_init rfl rfl rfl rfl (by decide) (by decide) (show 1 < 4 by decide) (i_X1_1_0 (post := fun M1 N1 => M1 = (id (id (M))) ∧ N1 = N) za8 ⟨rfl, rfl⟩) (by decide) (by decide) (by decide +kernel) (by decide +kernel) (fun M66 N66 hp => ?_)
  rw [hp.1, hp.2]
  have za9 :=  (za8.mono (show 37 ≤ 42 by decide))
  refine x_putR dX10_init_69 fnX10_48 (by decide +kernel) rfl rfl (show ((1, 0, 0), 4) :: UL.drop 85 = UL.drop 84 from rfl) ?_
  refine n_aload_n 0 dX10_init_72 rfl ?_
  refine n_iconst (v := -1) dX10_init_73 (by decide) ?_
  refine n_iconst (v := -1) dX10_init_74 (by decide) ?_
  refine n_sub (dm' := WLs 0) (a := (1, 0, 0)) (As := [.inl (-1), .inl (-1)]) (st := []) (post2 := BG 0 (id (id (id (M)))) N) dX10_init_75 mqX10 mbX10_begin rfl rfl (by decide) (by decide) (show 3 < 4 by decide) (by decide) rfl rfl (WLs_sub (by decide +kernel)) (by decide) (ful_of (by decide +kernel)) (k_X10_begin (d := 0) (WLs_d1 (by decide)) (c_begin (cn := cn0) ⟨rfl, rfl⟩ (fun M1 N1 o r9 e9 e12 e13 => ⟨o, r9, e9, e12, e13⟩))) (fun M1 N1 hb c hc hn => hb.1 c (fun w => hn (WLs_in 0 (by decide) (List.mem_of_mem_take hc) w))) (fun M1 N1 hb => ?_)
  exact n_ret dX10_init_78 (h _ _ hb)
set_option maxRecDepth 100000 in
set_option maxHeartbeats 4000000 in
theorem i_X2_1_1 {M : am_I} {N : am_N} {post : am_I → am_N → Prop} (hz : Zr 47 M N) (h : post M N) : jn 1 mX2_init 4 256 (AL.take 47) (UL.drop 78) 0 [(0, .inr (.inr (1, 1, 1)))] [] M N (AL.take 51) (UL.drop 74) post := by
  refine n_aload_n 0 dX2_init_0 rfl ?_
  refine n_objI dX2_init_1 (am_in1 126 rfl rfl) (am_in1 30 rfl rfl) (am_in1 31 rfl rfl) (by decide) (by decide) ?_
  refine n_aload_n 0 dX2_init_4 rfl ?_
  refine n_bipush (v := 64) dX2_init_5 (by decide) ?_
  refine x_ints (k := 47) (nc := 3) (ns := 192) (c0 := (1, 1, 2)) (n := 64) dX2_init_7 (am_in1 61 rfl rfl) rfl (by decide) (by decide) rfl (by decide +kernel) hz ?_
  have za1 := hz.mono (show 47 ≤ 48 by decide)
  refine x_putR dX2_init_9 fnX2_9 (by decide +kernel) rfl rfl (show ((1, 1, 1), 0) :: UL.drop 78 = UL.drop 77 from rfl) ?_
  refine n_aload_n 0 dX2_init_12 rfl ?_
  refine n_bipush (v := 64) dX2_init_13 (by decide) ?_
  refine x_ints (k := 48) (nc := 2) (ns := 128) (c0 := (1, 1, 3)) (n := 64) dX2_init_15 (am_in1 61 rfl rfl) rfl (by decide) (by decide) rfl (by decide +kernel) za1 ?_
  have za2 := za1.mono (show 48 ≤ 49 by decide)
  refine x_putR dX2_init_17 fnX2_15 (by decide +kernel) rfl rfl (show ((1, 1, 1), 1) :: UL.drop 77 = UL.drop 76 from rfl) ?_
  refine n_aload_n 0 dX2_init_20 rfl ?_
  refine n_bipush (v := 64) dX2_init_21 (by decide) ?_
  refine x_ints (k := 49) (nc := 1) (ns := 64) (c0 := (1, 1, 4)) (n := 64) dX2_init_23 (am_in1 61 rfl rfl) rfl (by decide) (by decide) rfl (by decide +kernel) za2 ?_
  have za3 := za2.mono (show 49 ≤ 50 by decide)
  refine x_putR dX2_init_25 fnX2_18 (by decide +kernel) rfl rfl (show ((1, 1, 1), 2) :: UL.drop 76 = UL.drop 75 from rfl) ?_
  refine n_aload_n 0 dX2_init_28 rfl ?_
  refine n_bipush (v := 64) dX2_init_29 (by decide) ?_
  refine x_ints (k := 50) (nc := 0) (ns := 0) (c0 := (1, 1, 5)) (n := 64) dX2_init_31 (am_in1 61 rfl rfl) rfl (by decide) (by decide) rfl (by decide +kernel) za3 ?_
  have za4 := za3.mono (show 50 ≤ 51 by decide)
  refine x_putR dX2_init_33 fnX2_21 (by decide +kernel) rfl rfl (show ((1, 1, 1), 3) :: UL.drop 75 = UL.drop 74 from rfl) ?_
  exact n_ret dX2_init_36 h
set_option maxRecDepth 100000 in
set_option maxHeartbeats 4000000 in
theorem i_X6_1_1 {M : am_I} {N : am_N} {post : am_I → am_N → Prop} (hz : Zr 52 M N) (h : post M N) : jn 1 mX6_init 7 645 (AL.take 52) (UL.drop 73) 0 [(0, .inr (.inr (1, 1, 6))), (1, .inr (.inr (0, 0, 1)))] [] M N (AL.take 59) (UL.drop 65) post := by
  refine n_aload_n 0 dX6_init_0 rfl ?_
  refine n_objI dX6_init_1 (am_in1 158 rfl rfl) (am_in1 30 rfl rfl) (am_in1 31 rfl rfl) (by decide) (by decide) ?_
  refine n_aload_n 0 dX6_init_4 rfl ?_
  refine n_bipush (v := 64) dX6_init_5 (by decide) ?_
  refine x_ints (k := 52) (nc := 6) (ns := 581) (c0 := (1, 1, 7)) (n := 64) dX6_init_7 (am_in1 61 rfl rfl) rfl (by decide) (by decide) rfl (by decide +kernel) hz ?_
  have za1 := hz.mono (show 52 ≤ 53 by decide)
  refine x_putR dX6_init_9 fnX6_9 (by decide +kernel) rfl rfl (show ((1, 1, 6), 1) :: UL.drop 73 = UL.drop 72 from rfl) ?_
  refine n_aload_n 0 dX6_init_12 rfl ?_
  refine n_bipush (v := 64) dX6_init_13 (by decide) ?_
  refine x_ints (k := 53) (nc := 5) (ns := 517) (c0 := (1, 1, 8)) (n := 64) dX6_init_15 (am_in1 61 rfl rfl) rfl (by decide) (by decide) rfl (by decide +kernel) za1 ?_
  have za2 := za1.mono (show 53 ≤ 54 by decide)
  refine x_putR dX6_init_17 fnX6_15 (by decide +kernel) rfl rfl (show ((1, 1, 6), 2) :: UL.drop 72 = UL.drop 71 from rfl) ?_
  refine n_aload_n 0 dX6_init_20 rfl ?_
  refine n_bipush (v := 64) dX6_init_21 (by decide) ?_
  refine x_ints (k := 54) (nc := 4) (ns := 453) (c0 := (1, 1, 9)) (n := 64) dX6_init_23 (am_in1 61 rfl rfl) rfl (by decide) (by decide) rfl (by decide +kernel) za2 ?_
  have za3 := za2.mono (show 54 ≤ 55 by decide)
  refine x_putR dX6_init_25 fnX6_18 (by decide +kernel) rfl rfl (show ((1, 1, 6), 3) :: UL.drop 71 = UL.drop 70 from rfl) ?_
  refine n_aload_n 0 dX6_init_28 rfl ?_
  refine n_bipush (v := 64) dX6_init_29 (by decide) ?_
  refine x_ints (k := 55) (nc := 3) (ns := 389) (c0 := (1, 1, 10)) (n := 64) dX6_init_31 (am_in1 61 rfl rfl) rfl (by decide) (by decide) rfl (by decide +kernel) za3 ?_
  have za4 := za3.mono (show 55 ≤ 56 by decide)
  refine x_putR dX6_init_33 fnX6_21 (by decide +kernel) rfl rfl (show ((1, 1, 6), 4) :: UL.drop 70 = UL.drop 69 from rfl) ?_
  refine n_aload_n 0 dX6_init_36 rfl ?_
  refine n_bipush (v := 64) dX6_init_37 (by decide) ?_
  refine x_ints (k := 56) (nc := 2) (ns := 325) (c0 := (1, 1, 11)) (n := 64) dX6_init_39 (am_in1 61 rfl rfl) rfl (by decide) (by decide) rfl (by decide +kernel) za4 ?_
  have za5 := za4.mono (show 56 ≤ 57 by decide)
  refine x_putR dX6_init_41 fnX6_24 (by decide +kernel) rfl rfl (show ((1, 1, 6), 5) :: UL.drop 69 = UL.drop 68 from rfl) ?_
  refine n_aload_n 0 dX6_init_44 rfl ?_
  refine n_sipush (v := 320) dX6_init_45 (by decide) ?_
  refine x_ints (k := 57) (nc := 1) (ns := 5) (c0 := (1, 1, 12)) (n := 320) dX6_init_48 (am_in1 61 rfl rfl) rfl (by decide) (by decide) rfl (by decide +kernel) za5 ?_
  have za6 := za5.mono (show 57 ≤ 58 by decide)
  refine x_putR dX6_init_50 fnX6_27 (by decide +kernel) rfl rfl (show ((1, 1, 6), 6) :: UL.drop 68 = UL.drop 67 from rfl) ?_
  refine n_aload_n 0 dX6_init_53 rfl ?_
  refine n_iconst (v := 5) dX6_init_54 (by decide) ?_
  refine x_longs (k := 58) (nc := 0) (ns := 0) (c0 := (1, 1, 13)) (n := 5) dX6_init_55 (am_in1 199 rfl rfl) rfl (by decide) (by decide) rfl (by decide +kernel) za6 ?_
  have za7 := za6.mono (show 58 ≤ 59 by decide)
  refine x_putR dX6_init_57 fnX6_30 (by decide +kernel) rfl rfl (show ((1, 1, 6), 7) :: UL.drop 67 = UL.drop 66 from rfl) ?_
  refine n_aload_n 0 dX6_init_60 rfl ?_
  refine n_aload_n 1 dX6_init_61 rfl ?_
  refine x_putR dX6_init_62 fnX6_34 (by decide +kernel) rfl rfl (show ((1, 1, 6), 0) :: UL.drop 66 = UL.drop 65 from rfl) ?_
  exact n_ret dX6_init_65 h
set_option maxRecDepth 100000 in
set_option maxHeartbeats 4000000 in
theorem i_X1_1_1 {M : am_I} {N : am_N} {post : am_I → am_N → Prop} (hz : Zr 60 M N) (h : post M N) : jn 1 mX1_init 5 40 (AL.take 60) (UL.drop 64) 0 [(0, .inr (.inr (1, 1, 14))), (1, .inr (.inr (0, 0, 1)))] [] M N (AL.take 65) (UL.drop 58) post := by
  refine n_aload_n 0 dX1_init_0 rfl ?_
  refine n_objI dX1_init_1 (am_in1 205 rfl rfl) (am_in1 30 rfl rfl) (am_in1 31 rfl rfl) (by decide) (by decide) ?_
  refine n_aload_n 0 dX1_init_4 rfl ?_
  refine n_bipush (v := 8) dX1_init_5 (by decide) ?_
  refine x_ints (k := 60) (nc := 4) (ns := 32) (c0 := (1, 1, 15)) (n := 8) dX1_init_7 (am_in1 61 rfl rfl) rfl (by decide) (by decide) rfl (by decide +kernel) hz ?_
  have za1 := hz.mono (show 60 ≤ 61 by decide)
  refine x_putR dX1_init_9 fnX1_9 (by decide +kernel) rfl rfl (show ((1, 1, 14), 1) :: UL.drop 64 = UL.drop 63 from rfl) ?_
  refine n_aload_n 0 dX1_init_12 rfl ?_
  refine n_bipush (v := 8) dX1_init_13 (by decide) ?_
  refine x_ints (k := 61) (nc := 3) (ns := 24) (c0 := (1, 1, 16)) (n := 8) dX1_init_15 (am_in1 61 rfl rfl) rfl (by decide) (by decide) rfl (by decide +kernel) za1 ?_
  have za2 := za1.mono (show 61 ≤ 62 by decide)
  refine x_putR dX1_init_17 fnX1_15 (by decide +kernel) rfl rfl (show ((1, 1, 14), 2) :: UL.drop 63 = UL.drop 62 from rfl) ?_
  refine n_aload_n 0 dX1_init_20 rfl ?_
  refine n_bipush (v := 8) dX1_init_21 (by decide) ?_
  refine x_ints (k := 62) (nc := 2) (ns := 16) (c0 := (1, 1, 17)) (n := 8) dX1_init_23 (am_in1 61 rfl rfl) rfl (by decide) (by decide) rfl (by decide +kernel) za2 ?_
  have za3 := za2.mono (show 62 ≤ 63 by decide)
  refine x_putR dX1_init_25 fnX1_18 (by decide +kernel) rfl rfl (show ((1, 1, 14), 3) :: UL.drop 62 = UL.drop 61 from rfl) ?_
  refine n_aload_n 0 dX1_init_28 rfl ?_
  refine n_bipush (v := 8) dX1_init_29 (by decide) ?_
  refine x_ints (k := 63) (nc := 1) (ns := 8) (c0 := (1, 1, 18)) (n := 8) dX1_init_31 (am_in1 61 rfl rfl) rfl (by decide) (by decide) rfl (by decide +kernel) za3 ?_
  have za4 := za3.mono (show 63 ≤ 64 by decide)
  refine x_putR dX1_init_33 fnX1_21 (by decide +kernel) rfl rfl (show ((1, 1, 14), 4) :: UL.drop 61 = UL.drop 60 from rfl) ?_
  refine n_aload_n 0 dX1_init_36 rfl ?_
  refine n_bipush (v := 8) dX1_init_37 (by decide) ?_
  refine x_longs (k := 64) (nc := 0) (ns := 0) (c0 := (1, 1, 19)) (n := 8) dX1_init_39 (am_in1 199 rfl rfl) rfl (by decide) (by decide) rfl (by decide +kernel) za4 ?_
  have za5 := za4.mono (show 64 ≤ 65 by decide)
  refine x_putR dX1_init_41 fnX1_24 (by decide +kernel) rfl rfl (show ((1, 1, 14), 5) :: UL.drop 60 = UL.drop 59 from rfl) ?_
  refine n_aload_n 0 dX1_init_44 rfl ?_
  refine n_aload_n 1 dX1_init_45 rfl ?_
  refine x_putR dX1_init_46 fnX1_28 (by decide +kernel) rfl rfl (show ((1, 1, 14), 0) :: UL.drop 59 = UL.drop 58 from rfl) ?_
  exact n_ret dX1_init_49 h
set_option maxRecDepth 100000 in
set_option maxHeartbeats 4000000 in
theorem i_X10_1_1 {M : am_I} {N : am_N} {post : am_I → am_N → Prop} (hz : Zr 43 M N) (h : ∀ M1 N1, BG 1 M N M1 N1 → post M1 N1) : jn 4 mX10_init 22 1088 (AL.take 43) (UL.drop 83) 0 [(0, .inr (.inr (1, 1, 0))), (1, .inr (.inr (0, 0, 1))), (2, .inr (.inr (0, 0, 2)))] [] M N (AL.take 65) (UL.drop 57) post := by
  refine n_aload_n 0 dX10_init_0 rfl ?_
  refine n_objI dX10_init_1 (am_in1 120 rfl rfl) (am_in1 30 rfl rfl) (am_in1 31 rfl rfl) (by decide) (by decide) ?_
  refine n_aload_n 0 dX10_init_4 rfl ?_
  refine n_bipush (v := 60) dX10_init_5 (by decide) ?_
  refine x_ints (k := 43) (nc := 21) (ns := 1028) (c0 := (1, 1, 20)) (n := 60) dX10_init_7 (am_in1 61 rfl rfl) rfl (by decide) (by decide) rfl (by decide +kernel) hz ?_
  have za1 := hz.mono (show 43 ≤ 44 by decide)
  refine x_putR dX10_init_9 fnX10_9 (by decide +kernel) rfl rfl (show ((1, 1, 0), 5) :: UL.drop 83 = UL.drop 82 from rfl) ?_
  refine n_aload_n 0 dX10_init_12 rfl ?_
  refine n_bipush (v := 60) dX10_init_13 (by decide) ?_
  refine x_ints (k := 44) (nc := 20) (ns := 968) (c0 := (1, 1, 21)) (n := 60) dX10_init_15 (am_in1 61 rfl rfl) rfl (by decide) (by decide) rfl (by decide +kernel) za1 ?_
  have za2 := za1.mono (show 44 ≤ 45 by decide)
  refine x_putR dX10_init_17 fnX10_15 (by decide +kernel) rfl rfl (show ((1, 1, 0), 6) :: UL.drop 82 = UL.drop 81 from rfl) ?_
  refine n_aload_n 0 dX10_init_20 rfl ?_
  refine n_iconst (v := 4) dX10_init_21 (by decide) ?_
  refine x_ints (k := 45) (nc := 19) (ns := 964) (c0 := (1, 1, 22)) (n := 4) dX10_init_22 (am_in1 61 rfl rfl) rfl (by decide) (by decide) rfl (by decide +kernel) za2 ?_
  have za3 := za2.mono (show 45 ≤ 46 by decide)
  refine x_putR dX10_init_24 fnX10_18 (by decide +kernel) rfl rfl (show ((1, 1, 0), 7) :: UL.drop 81 = UL.drop 80 from rfl) ?_
  refine n_aload_n 0 dX10_init_27 rfl ?_
  refine n_aload_n 1 dX10_init_28 rfl ?_
  refine x_putR dX10_init_29 fnX10_21 (by decide +kernel) rfl rfl (show ((1, 1, 0), 0) :: UL.drop 80 = UL.drop 79 from rfl) ?_
  refine n_aload_n 0 dX10_init_32 rfl ?_
  refine n_aload_n 2 dX10_init_33 rfl ?_
  refine x_putR dX10_init_34 fnX10_25 (by decide +kernel) rfl rfl (show ((1, 1, 0), 1) :: UL.drop 79 = UL.drop 78 from rfl) ?_
  refine n_aload_n 0 dX10_init_37 rfl ?_
  refine x_new (k := 46) (nc := 18) (ns := 958) (c0 := (1, 1, 1)) dX10_init_38 cb2 (am_in1 121 rfl rfl) (am_in1 122 rfl rfl) (am_in1 6 rfl rfl) rfl df2 rfl (by decide +kernel) za3 ?_
  have za4 := za3.mono (show 46 ≤ 47 by decide)
  refine n_dup dX10_init_41 rfl ?_
  refine x_call (k := 47) (k1 := 51) (nc := 14) (ns := 702) (nc1 := 4) (ns1 := 256) (U1 := UL.drop 74) (a := (1, 1, 1)) (As := []) (st := [.inr (.inr (1, 1, 1)), .inr (.inr (1, 1, 0))]) dX10_init_42 ⟨Or.inr ⟨"PloughField", am_inN1 123 rfl rfl⟩, am_in1 124 rfl rfl⟩ mbX2_init rfl rfl rfl rfl (by decide) (by decide) (show 1 < 4 by decide) (i_X2_1_1 (post := fun M1 N1 => M1 = (M) ∧ N1 = N) za4 ⟨rfl, rfl⟩) (by decide) (by decide) (by decide +kernel) (by decide +kernel) (fun M42 N42 hp => ?_)
  rw [hp.1, hp.2]
  have za5 :=  (za4.mono (show 47 ≤ 51 by decide))
  refine x_putR dX10_init_45 fnX10_32 (by decide +kernel) rfl rfl (show ((1, 1, 0), 2) :: UL.drop 74 = UL.drop 73 from rfl) ?_
  refine n_aload_n 0 dX10_init_48 rfl ?_
  refine x_new (k := 51) (nc := 13) (ns := 691) (c0 := (1, 1, 6)) dX10_init_49 cb5 (am_in1 153 rfl rfl) (am_in1 154 rfl rfl) (am_in1 7 rfl rfl) rfl df5 rfl (by decide +kernel) za5 ?_
  have za6 := za5.mono (show 51 ≤ 52 by decide)
  refine n_dup dX10_init_52 rfl ?_
  refine n_aload_n 1 dX10_init_53 rfl ?_
  refine x_call (k := 52) (k1 := 59) (nc := 6) (ns := 46) (nc1 := 7) (ns1 := 645) (U1 := UL.drop 65) (a := (1, 1, 6)) (As := [.inr (.inr (0, 0, 1))]) (st := [.inr (.inr (1, 1, 6)), .inr (.inr (1, 1, 0))]) dX10_init_54 ⟨Or.inl (am_in1 155 rfl rfl), am_in1 156 rfl rfl⟩ mbX6_init rfl rfl rfl rfl (by decide) (by decide) (show 1 < 4 by decide) (i_X6_1_1 (post := fun M1 N1 => M1 = (id (M)) ∧ N1 = N) za6 ⟨rfl, rfl⟩) (by decide) (by decide) (by decide +kernel) (by decide +kernel) (fun M54 N54 hp => ?_)
  rw [hp.1, hp.2]
  have za7 :=  (za6.mono (show 52 ≤ 59 by decide))
  refine x_putR dX10_init_57 fnX10_41 (by decide +kernel) rfl rfl (show ((1, 1, 0), 3) :: UL.drop 65 = UL.drop 64 from rfl) ?_
  refine n_aload_n 0 dX10_init_60 rfl ?_
  refine x_new (k := 59) (nc := 5) (ns := 40) (c0 := (1, 1, 14)) dX10_init_61 cb1 (am_in1 200 rfl rfl) (am_in1 201 rfl rfl) (am_in1 8 rfl rfl) rfl df1 rfl (by decide +kernel) za7 ?_
  have za8 := za7.mono (show 59 ≤ 60 by decide)
  refine n_dup dX10_init_64 rfl ?_
  refine n_aload_n 1 dX10_init_65 rfl ?_
  refine x_call (k := 60) (k1 := 65) (nc := 0) (ns := 0) (nc1 := 5) (ns1 := 40) (U1 := UL.drop 58) (a := (1, 1, 14)) (As := [.inr (.inr (0, 0, 1))]) (st := [.inr (.inr (1, 1, 14)), .inr (.inr (1, 1, 0))]) dX10_init_66 ⟨Or.inl (am_in1 202 rfl rfl), am_in1 203 rfl rfl⟩ mbX1_init rfl rfl rfl rfl (by decide) (by decide) (show 1 < 4 by decide) (i_X1_1_1 (post := fun M1 N1 => M1 = (id (id (M))) ∧ N1 = N) za8 ⟨rfl, rfl⟩) (by decide) (by decide) (by decide +kernel) (by decide +kernel) (fun M66 N66 hp => ?_)
  rw [hp.1, hp.2]
  have za9 :=  (za8.mono (show 60 ≤ 65 by decide))
  refine x_putR dX10_init_69 fnX10_48 (by decide +kernel) rfl rfl (show ((1, 1, 0), 4) :: UL.drop 58 = UL.drop 57 from rfl) ?_
  refine n_aload_n 0 dX10_init_72 rfl ?_
  refine n_iconst (v := -1) dX10_init_73 (by decide) ?_
  refine n_iconst (v := -1) dX10_init_74 (by decide) ?_
  refine n_sub (dm' := WLs 1) (a := (1, 1, 0)) (As := [.inl (-1), .inl (-1)]) (st := []) (post2 := BG 1 (id (id (id (M)))) N) dX10_init_75 mqX10 mbX10_begin rfl rfl (by decide) (by decide) (show 3 < 4 by decide) (by decide) rfl rfl (WLs_sub (by decide +kernel)) (by decide) (ful_of (by decide +kernel)) (k_X10_begin (d := 0) (WLs_d1 (by decide)) (c_begin (cn := cn0) ⟨rfl, rfl⟩ (fun M1 N1 o r9 e9 e12 e13 => ⟨o, r9, e9, e12, e13⟩))) (fun M1 N1 hb c hc hn => hb.1 c (fun w => hn (WLs_in 1 (by decide) (List.mem_of_mem_take hc) w))) (fun M1 N1 hb => ?_)
  exact n_ret dX10_init_78 (h _ _ hb)
set_option maxRecDepth 100000 in
set_option maxHeartbeats 4000000 in
theorem i_X7_0_0 {M : am_I} {N : am_N} {post : am_I → am_N → Prop} (hz : Zr 66 M N) (h : post M N) : jn 1 mX7_init 4 2050 (AL.take 66) (UL.drop 56) 0 [(0, .inr (.inr (0, 0, 7)))] [] M N (AL.take 70) (UL.drop 52) post := by
  refine n_aload_n 0 dX7_init_0 rfl ?_
  refine n_objI dX7_init_1 (am_in2 69 rfl rfl) (am_in1 30 rfl rfl) (am_in1 31 rfl rfl) (by decide) (by decide) ?_
  refine n_aload_n 0 dX7_init_4 rfl ?_
  refine n_sipush (v := 500) dX7_init_5 (by decide) ?_
  refine x_ints (k := 66) (nc := 3) (ns := 1550) (c0 := (0, 0, 8)) (n := 500) dX7_init_8 (am_in1 61 rfl rfl) rfl (by decide) (by decide) rfl (by decide +kernel) hz ?_
  have za1 := hz.mono (show 66 ≤ 67 by decide)
  refine x_putR dX7_init_10 fnX7_11 (by decide +kernel) rfl rfl (show ((0, 0, 7), 0) :: UL.drop 56 = UL.drop 55 from rfl) ?_
  refine n_aload_n 0 dX7_init_13 rfl ?_
  refine n_sipush (v := 501) dX7_init_14 (by decide) ?_
  refine x_ints (k := 67) (nc := 2) (ns := 1049) (c0 := (0, 0, 9)) (n := 501) dX7_init_17 (am_in1 61 rfl rfl) rfl (by decide) (by decide) rfl (by decide +kernel) za1 ?_
  have za2 := za1.mono (show 67 ≤ 68 by decide)
  refine x_putR dX7_init_19 fnX7_15 (by decide +kernel) rfl rfl (show ((0, 0, 7), 1) :: UL.drop 55 = UL.drop 54 from rfl) ?_
  refine n_aload_n 0 dX7_init_22 rfl ?_
  refine n_sipush (v := 501) dX7_init_23 (by decide) ?_
  refine x_ints (k := 68) (nc := 1) (ns := 548) (c0 := (0, 0, 10)) (n := 501) dX7_init_26 (am_in1 61 rfl rfl) rfl (by decide) (by decide) rfl (by decide +kernel) za2 ?_
  have za3 := za2.mono (show 68 ≤ 69 by decide)
  refine x_putR dX7_init_28 fnX7_18 (by decide +kernel) rfl rfl (show ((0, 0, 7), 2) :: UL.drop 54 = UL.drop 53 from rfl) ?_
  refine n_aload_n 0 dX7_init_31 rfl ?_
  refine n_sipush (v := 548) dX7_init_32 (by decide) ?_
  refine x_ints (k := 69) (nc := 0) (ns := 0) (c0 := (0, 0, 11)) (n := 548) dX7_init_35 (am_in1 61 rfl rfl) rfl (by decide) (by decide) rfl (by decide +kernel) za3 ?_
  have za4 := za3.mono (show 69 ≤ 70 by decide)
  refine x_putR dX7_init_37 fnX7_21 (by decide +kernel) rfl rfl (show ((0, 0, 7), 3) :: UL.drop 53 = UL.drop 52 from rfl) ?_
  exact n_ret dX7_init_40 h
set_option maxRecDepth 100000 in
set_option maxHeartbeats 4000000 in
theorem i_X3_0_0 {M : am_I} {N : am_N} {post : am_I → am_N → Prop} (hz : Zr 71 M N) (h : post M N) : jn 1 mX3_init 2 612 (AL.take 71) (UL.drop 51) 0 [(0, .inr (.inr (0, 0, 12)))] [] M N (AL.take 73) (UL.drop 49) post := by
  refine n_aload_n 0 dX3_init_0 rfl ?_
  refine n_objI dX3_init_1 (am_in2 107 rfl rfl) (am_in1 30 rfl rfl) (am_in1 31 rfl rfl) (by decide) (by decide) ?_
  refine n_aload_n 0 dX3_init_4 rfl ?_
  refine n_sipush (v := 548) dX3_init_5 (by decide) ?_
  refine x_ints (k := 71) (nc := 1) (ns := 64) (c0 := (0, 0, 13)) (n := 548) dX3_init_8 (am_in1 61 rfl rfl) rfl (by decide) (by decide) rfl (by decide +kernel) hz ?_
  have za1 := hz.mono (show 71 ≤ 72 by decide)
  refine x_putR dX3_init_10 fnX3_9 (by decide +kernel) rfl rfl (show ((0, 0, 12), 0) :: UL.drop 51 = UL.drop 50 from rfl) ?_
  refine n_aload_n 0 dX3_init_13 rfl ?_
  refine n_bipush (v := 64) dX3_init_14 (by decide) ?_
  refine x_ints (k := 72) (nc := 0) (ns := 0) (c0 := (0, 0, 14)) (n := 64) dX3_init_16 (am_in1 61 rfl rfl) rfl (by decide) (by decide) rfl (by decide +kernel) za1 ?_
  have za2 := za1.mono (show 72 ≤ 73 by decide)
  refine x_putR dX3_init_18 fnX3_15 (by decide +kernel) rfl rfl (show ((0, 0, 12), 1) :: UL.drop 50 = UL.drop 49 from rfl) ?_
  exact n_ret dX3_init_21 h
set_option maxRecDepth 100000 in
set_option maxHeartbeats 4000000 in
theorem i_X9_2_6 {M : am_I} {N : am_N} {post : am_I → am_N → Prop} (hz : Zr 75 M N) (h : post (tabM 6 12 2 M) N) : jn 1 mX9_init 1 24 (AL.take 75) (UL.drop 48) 0 [(0, .inr (.inr (2, 6, 0))), (1, .inl 12), (2, .inl 2)] [] M N (AL.take 76) (UL.drop 47) post := by
  refine n_aload_n 0 dX9_init_0 rfl ?_
  refine n_objI dX9_init_1 (am_in1 43 rfl rfl) (am_in1 30 rfl rfl) (am_in1 31 rfl rfl) (by decide) (by decide) ?_
  refine n_aload_n 0 dX9_init_4 rfl ?_
  refine n_iload_n 1 dX9_init_5 rfl ?_
  refine n_putI dX9_init_6 fnX9_7 (by decide +kernel) rfl ?_
  have za1 := Zr.u (a := (2, 6, 0)) (i := 2) (x := 12) hz (by decide +kernel)
  refine n_aload_n 0 dX9_init_9 rfl ?_
  refine n_iload_n 2 dX9_init_10 rfl ?_
  refine n_putI dX9_init_11 fnX9_13 (by decide +kernel) rfl ?_
  have za2 := Zr.u (a := (2, 6, 0)) (i := 1) (x := 2) za1 (by decide +kernel)
  refine n_aload_n 0 dX9_init_14 rfl ?_
  refine n_iload_n 1 dX9_init_15 rfl ?_
  refine n_iload_n 2 dX9_init_16 rfl ?_
  refine n_imul dX9_init_17 ?_
  rw [show (12 : Int32) * 2 = 24 by decide]
  refine x_ints (k := 75) (nc := 0) (ns := 0) (c0 := (2, 6, 1)) (n := 24) dX9_init_18 (am_in1 61 rfl rfl) rfl (by decide) (by decide) rfl (by decide +kernel) za2 ?_
  have za3 := za2.mono (show 75 ≤ 76 by decide)
  refine x_putR dX9_init_20 fnX9_16 (by decide +kernel) rfl rfl (show ((2, 6, 0), 0) :: UL.drop 48 = UL.drop 47 from rfl) ?_
  refine n_aload_n 0 dX9_init_23 rfl ?_
  refine n_iconst (v := 0) dX9_init_24 (by decide) ?_
  refine n_putI dX9_init_25 fnX9_20 (by decide +kernel) rfl ?_
  have za4 := Zr.u (a := (2, 6, 0)) (i := 3) (x := 0) za3 (by decide +kernel)
  exact n_ret dX9_init_28 h
set_option maxRecDepth 100000 in
set_option maxHeartbeats 4000000 in
theorem i_X8_0_0 {M : am_I} {N : am_N} {post : am_I → am_N → Prop} (hz : Zr 74 M N) (h : post (tabM 6 12 2 M) N) : jn 2 mX8_init 2 28 (AL.take 74) (UL.drop 48) 0 [(0, .inr (.inr (0, 0, 15)))] [] M N (AL.take 76) (UL.drop 46) post := by
  refine n_aload_n 0 dX8_init_0 rfl ?_
  refine n_objI dX8_init_1 (am_in2 142 rfl rfl) (am_in1 30 rfl rfl) (am_in1 31 rfl rfl) (by decide) (by decide) ?_
  refine n_aload_n 0 dX8_init_4 rfl ?_
  refine x_new (k := 74) (nc := 1) (ns := 24) (c0 := (2, 6, 0)) dX8_init_5 cb8 (am_in2 143 rfl rfl) (am_in1 39 rfl rfl) (am_in1 3 rfl rfl) rfl df8 rfl (by decide +kernel) hz ?_
  have za1 := hz.mono (show 74 ≤ 75 by decide)
  refine n_dup dX8_init_8 rfl ?_
  refine n_bipush (v := 12) dX8_init_9 (by decide) ?_
  refine n_iconst (v := 2) dX8_init_11 (by decide) ?_
  refine x_call (k := 75) (k1 := 76) (nc := 0) (ns := 0) (nc1 := 1) (ns1 := 24) (U1 := UL.drop 47) (a := (2, 6, 0)) (As := [.inl 12, .inl 2]) (st := [.inr (.inr (2, 6, 0)), .inr (.inr (0, 0, 15))]) dX8_init_12 ⟨Or.inl (am_in2 144 rfl rfl), am_in1 41 rfl rfl⟩ mbX9_init rfl rfl rfl rfl (by decide) (by decide) (show 1 < 2 by decide) (i_X9_2_6 (post := fun M1 N1 => M1 = tabM 6 12 2 (M) ∧ N1 = N) za1 ⟨rfl, rfl⟩) (by decide) (by decide) (by decide +kernel) (by decide +kernel) (fun M12 N12 hp => ?_)
  rw [hp.1, hp.2]
  have za2 := Zr.tab (t := 6) (mo := 12) (wi := 2) (by decide +kernel) (za1.mono (show 75 ≤ 76 by decide))
  refine x_putR dX8_init_15 fnX8_14 (by decide +kernel) rfl rfl (show ((0, 0, 15), 0) :: UL.drop 47 = UL.drop 46 from rfl) ?_
  exact n_ret dX8_init_18 h
set_option maxRecDepth 100000 in
set_option maxHeartbeats 4000000 in
theorem i_X11_0_0 {M : am_I} {N : am_N} {post : am_I → am_N → Prop} (hz : Zr 1 M N) (h : ∀ M2 N2 M3 N3, BG 0 (bookM M) N M2 N2 → BG 1 M2 N2 M3 N3 → post (am_u (am_u (tabM 6 12 2 M3) (0, 0, 0) 8 0) (0, 0, 0) 9 (-1)) N3) : jn 5 mX11_init 76 8487 (AL.take 1) (UL.drop 128) 0 [(0, .inr (.inr (0, 0, 0)))] [] M N (AL.take 77) (UL.drop 44) post := by
  refine n_aload_n 0 dX11_init_0 rfl ?_
  refine n_objI dX11_init_1 (am_in1 29 rfl rfl) (am_in1 30 rfl rfl) (am_in1 31 rfl rfl) (by decide) (by decide) ?_
  refine n_aload_n 0 dX11_init_4 rfl ?_
  refine x_new (k := 1) (nc := 75) (ns := 8481) (c0 := (0, 0, 1)) dX11_init_5 cb0 (am_in1 32 rfl rfl) (am_in1 33 rfl rfl) (am_in1 2 rfl rfl) rfl df0 rfl (by decide +kernel) hz ?_
  have za1 := hz.mono (show 1 ≤ 2 by decide)
  refine n_dup dX11_init_8 rfl ?_
  refine x_call (k := 2) (k1 := 14) (nc := 63) (ns := 6077) (nc1 := 12) (ns1 := 2404) (U1 := UL.drop 116) (a := (0, 0, 1)) (As := []) (st := [.inr (.inr (0, 0, 1)), .inr (.inr (0, 0, 0))]) dX11_init_9 ⟨Or.inr ⟨"PloughField", am_inN1 34 rfl rfl⟩, am_in1 35 rfl rfl⟩ mbX0_init rfl rfl rfl rfl (by decide) (by decide) (show 2 < 5 by decide) (i_X0_0_0 (post := fun M1 N1 => M1 = bookM (M) ∧ N1 = N) za1 ⟨rfl, rfl⟩) (by decide) (by decide) (by decide +kernel) (by decide +kernel) (fun M9 N9 hp => ?_)
  rw [hp.1, hp.2]
  have za2 := Zr.book (by decide +kernel) (za1.mono (show 2 ≤ 14 by decide))
  refine x_putR dX11_init_12 fnX11_10 (by decide +kernel) rfl rfl (show ((0, 0, 0), 0) :: UL.drop 116 = UL.drop 115 from rfl) ?_
  refine n_aload_n 0 dX11_init_15 rfl ?_
  refine x_new (k := 14) (nc := 62) (ns := 6072) (c0 := (0, 0, 2)) dX11_init_16 cb4 (am_in1 93 rfl rfl) (am_in1 94 rfl rfl) (am_in1 4 rfl rfl) rfl df4 rfl (by decide +kernel) za2 ?_
  have za3 := za2.mono (show 14 ≤ 15 by decide)
  refine n_dup dX11_init_19 rfl ?_
  refine x_call (k := 15) (k1 := 19) (nc := 58) (ns := 4920) (nc1 := 4) (ns1 := 1152) (U1 := UL.drop 111) (a := (0, 0, 2)) (As := []) (st := [.inr (.inr (0, 0, 2)), .inr (.inr (0, 0, 0))]) dX11_init_20 ⟨Or.inr ⟨"PloughField", am_inN1 95 rfl rfl⟩, am_in1 96 rfl rfl⟩ mbX5_init rfl rfl rfl rfl (by decide) (by decide) (show 1 < 5 by decide) (i_X5_0_0 (post := fun M1 N1 => M1 = (bookM (M)) ∧ N1 = N) za3 ⟨rfl, rfl⟩) (by decide) (by decide) (by decide +kernel) (by decide +kernel) (fun M20 N20 hp => ?_)
  rw [hp.1, hp.2]
  have za4 :=  (za3.mono (show 15 ≤ 19 by decide))
  refine x_putR dX11_init_23 fnX11_19 (by decide +kernel) rfl rfl (show ((0, 0, 0), 1) :: UL.drop 111 = UL.drop 110 from rfl) ?_
  refine n_aload_n 0 dX11_init_26 rfl ?_
  refine x_new (k := 19) (nc := 57) (ns := 4906) (c0 := (1, 0, 0)) dX11_init_27 cb9 (am_in1 115 rfl rfl) (am_in1 116 rfl rfl) (am_in1 5 rfl rfl) rfl df9 rfl (by decide +kernel) za4 ?_
  have za5 := za4.mono (show 19 ≤ 20 by decide)
  refine n_dup dX11_init_30 rfl ?_
  refine n_aload_n 0 dX11_init_31 rfl ?_
  refine n_get dX11_init_32 fnX11_10 (by decide +kernel) rfl (by decide +kernel) rfl ?_
  refine n_aload_n 0 dX11_init_35 rfl ?_
  refine n_get dX11_init_36 fnX11_19 (by decide +kernel) rfl (by decide +kernel) rfl ?_
  refine x_call (k := 20) (k1 := 42) (nc := 35) (ns := 3818) (nc1 := 22) (ns1 := 1088) (U1 := UL.drop 84) (a := (1, 0, 0)) (As := [.inr (.inr (0, 0, 1)), .inr (.inr (0, 0, 2))]) (st := [.inr (.inr (1, 0, 0)), .inr (.inr (0, 0, 0))]) dX11_init_39 ⟨Or.inl (am_in1 117 rfl rfl), am_in1 118 rfl rfl⟩ mbX10_init rfl rfl rfl rfl (by decide) (by decide) (show 4 < 5 by decide) (i_X10_1_0 (post := BG 0 (id (bookM (M))) N) za5 (fun _ _ w => w)) (by decide) (by decide) (by decide +kernel) (by decide +kernel) (fun M39 N39 hp => ?_)
  have za6 := Zr.bg (za5.mono (show 20 ≤ 42 by decide)) (by decide +kernel) hp
  have bg39 := hp
  refine x_putR dX11_init_42 fnX11_28 (by decide +kernel) rfl rfl (show ((0, 0, 0), 2) :: UL.drop 84 = UL.drop 83 from rfl) ?_
  refine n_aload_n 0 dX11_init_45 rfl ?_
  refine x_new (k := 42) (nc := 34) (ns := 3804) (c0 := (1, 1, 0)) dX11_init_46 cb9 (am_in1 115 rfl rfl) (am_in1 116 rfl rfl) (am_in1 5 rfl rfl) rfl df9 rfl (by decide +kernel) za6 ?_
  have za7 := za6.mono (show 42 ≤ 43 by decide)
  refine n_dup dX11_init_49 rfl ?_
  refine n_aload_n 0 dX11_init_50 rfl ?_
  refine n_get dX11_init_51 fnX11_10 (by decide +kernel) rfl (by decide +kernel) rfl ?_
  refine n_aload_n 0 dX11_init_54 rfl ?_
  refine n_get dX11_init_55 fnX11_19 (by decide +kernel) rfl (by decide +kernel) rfl ?_
  refine x_call (k := 43) (k1 := 65) (nc := 12) (ns := 2716) (nc1 := 22) (ns1 := 1088) (U1 := UL.drop 57) (a := (1, 1, 0)) (As := [.inr (.inr (0, 0, 1)), .inr (.inr (0, 0, 2))]) (st := [.inr (.inr (1, 1, 0)), .inr (.inr (0, 0, 0))]) dX11_init_58 ⟨Or.inl (am_in1 117 rfl rfl), am_in1 118 rfl rfl⟩ mbX10_init rfl rfl rfl rfl (by decide) (by decide) (show 4 < 5 by decide) (i_X10_1_1 (post := BG 1 (M39) N39) za7 (fun _ _ w => w)) (by decide) (by decide) (by decide +kernel) (by decide +kernel) (fun M58 N58 hp => ?_)
  have za8 := Zr.bg (za7.mono (show 43 ≤ 65 by decide)) (by decide +kernel) hp
  have bg58 := hp
  refine x_putR dX11_init_61 fnX11_32 (by decide +kernel) rfl rfl (show ((0, 0, 0), 3) :: UL.drop 57 = UL.drop 56 from rfl) ?_
  refine n_aload_n 0 dX11_init_64 rfl ?_
  refine x_new (k := 65) (nc := 11) (ns := 2707) (c0 := (0, 0, 7)) dX11_init_65 cb6 (am_in2 64 rfl rfl) (am_in2 65 rfl rfl) (am_in1 10 rfl rfl) rfl df6 rfl (by decide +kernel) za8 ?_
  have za9 := za8.mono (show 65 ≤ 66 by decide)
  refine n_dup dX11_init_68 rfl ?_
  refine x_call (k := 66) (k1 := 70) (nc := 7) (ns := 657) (nc1 := 4) (ns1 := 2050) (U1 := UL.drop 52) (a := (0, 0, 7)) (As := []) (st := [.inr (.inr (0, 0, 7)), .inr (.inr (0, 0, 0))]) dX11_init_69 ⟨Or.inr ⟨"PloughField", am_inN2 66 rfl rfl⟩, am_in2 67 rfl rfl⟩ mbX7_init rfl rfl rfl rfl (by decide) (by decide) (show 1 < 5 by decide) (i_X7_0_0 (post := fun M1 N1 => M1 = (M58) ∧ N1 = N58) za9 ⟨rfl, rfl⟩) (by decide) (by decide) (by decide +kernel) (by decide +kernel) (fun M69 N69 hp => ?_)
  rw [hp.1, hp.2]
  have za10 :=  (za9.mono (show 66 ≤ 70 by decide))
  refine x_putR dX11_init_72 fnX11_38 (by decide +kernel) rfl rfl (show ((0, 0, 0), 4) :: UL.drop 52 = UL.drop 51 from rfl) ?_
  refine n_aload_n 0 dX11_init_75 rfl ?_
  refine x_new (k := 70) (nc := 6) (ns := 649) (c0 := (0, 0, 12)) dX11_init_76 cb3 (am_in2 102 rfl rfl) (am_in2 103 rfl rfl) (am_in1 11 rfl rfl) rfl df3 rfl (by decide +kernel) za10 ?_
  have za11 := za10.mono (show 70 ≤ 71 by decide)
  refine n_dup dX11_init_79 rfl ?_
  refine x_call (k := 71) (k1 := 73) (nc := 4) (ns := 37) (nc1 := 2) (ns1 := 612) (U1 := UL.drop 49) (a := (0, 0, 12)) (As := []) (st := [.inr (.inr (0, 0, 12)), .inr (.inr (0, 0, 0))]) dX11_init_80 ⟨Or.inr ⟨"PloughField", am_inN2 104 rfl rfl⟩, am_in2 105 rfl rfl⟩ mbX3_init rfl rfl rfl rfl (by decide) (by decide) (show 1 < 5 by decide) (i_X3_0_0 (post := fun M1 N1 => M1 = (id (M58)) ∧ N1 = N58) za11 ⟨rfl, rfl⟩) (by decide) (by decide) (by decide +kernel) (by decide +kernel) (fun M80 N80 hp => ?_)
  rw [hp.1, hp.2]
  have za12 :=  (za11.mono (show 71 ≤ 73 by decide))
  refine x_putR dX11_init_83 fnX11_45 (by decide +kernel) rfl rfl (show ((0, 0, 0), 5) :: UL.drop 49 = UL.drop 48 from rfl) ?_
  refine n_aload_n 0 dX11_init_86 rfl ?_
  refine x_new (k := 73) (nc := 3) (ns := 36) (c0 := (0, 0, 15)) dX11_init_87 cb7 (am_in2 137 rfl rfl) (am_in2 138 rfl rfl) (am_in1 12 rfl rfl) rfl df7 rfl (by decide +kernel) za12 ?_
  have za13 := za12.mono (show 73 ≤ 74 by decide)
  refine n_dup dX11_init_90 rfl ?_
  refine x_call (k := 74) (k1 := 76) (nc := 1) (ns := 8) (nc1 := 2) (ns1 := 28) (U1 := UL.drop 46) (a := (0, 0, 15)) (As := []) (st := [.inr (.inr (0, 0, 15)), .inr (.inr (0, 0, 0))]) dX11_init_91 ⟨Or.inr ⟨"PloughField", am_inN2 139 rfl rfl⟩, am_in2 140 rfl rfl⟩ mbX8_init rfl rfl rfl rfl (by decide) (by decide) (show 2 < 5 by decide) (i_X8_0_0 (post := fun M1 N1 => M1 = tabM 6 12 2 (id (id (M58))) ∧ N1 = N58) za13 ⟨rfl, rfl⟩) (by decide) (by decide) (by decide +kernel) (by decide +kernel) (fun M91 N91 hp => ?_)
  rw [hp.1, hp.2]
  have za14 := Zr.tab (t := 6) (mo := 12) (wi := 2) (by decide +kernel) (za13.mono (show 74 ≤ 76 by decide))
  refine x_putR dX11_init_94 fnX11_52 (by decide +kernel) rfl rfl (show ((0, 0, 0), 6) :: UL.drop 46 = UL.drop 45 from rfl) ?_
  refine n_aload_n 0 dX11_init_97 rfl ?_
  refine n_bipush (v := 8) dX11_init_98 (by decide) ?_
  refine x_ints (k := 76) (nc := 0) (ns := 0) (c0 := (0, 0, 16)) (n := 8) dX11_init_100 (am_in1 61 rfl rfl) rfl (by decide) (by decide) rfl (by decide +kernel) za14 ?_
  have za15 := za14.mono (show 76 ≤ 77 by decide)
  refine x_putR dX11_init_102 fnX11_56 (by decide +kernel) rfl rfl (show ((0, 0, 0), 7) :: UL.drop 45 = UL.drop 44 from rfl) ?_
  refine n_aload_n 0 dX11_init_105 rfl ?_
  refine n_iconst (v := 0) dX11_init_106 (by decide) ?_
  refine n_putI dX11_init_107 fnX11_60 (by decide +kernel) rfl ?_
  have za16 := Zr.u (a := (0, 0, 0)) (i := 8) (x := 0) za15 (by decide +kernel)
  refine n_aload_n 0 dX11_init_110 rfl ?_
  refine n_iconst (v := -1) dX11_init_111 (by decide) ?_
  refine n_putI dX11_init_112 fnX11_64 (by decide +kernel) rfl ?_
  have za17 := Zr.u (a := (0, 0, 0)) (i := 9) (x := -1) za16 (by decide +kernel)
  exact n_ret dX11_init_115 (h _ _ _ _ bg39 bg58)
set_option maxRecDepth 100000 in
set_option maxHeartbeats 4000000 in
theorem i_X12_3_0 {M : am_I} {N : am_N} {post : am_I → am_N → Prop} (hz : Zr 78 M N) (h : post (am_s (am_u (am_u (M) (3, 0, 0) 30 (-1)) (3, 0, 0) 51 (-1)) (3, 0, 1) (fun i => if i < 1635 then begF i else (am_u (am_u (M) (3, 0, 0) 30 (-1)) (3, 0, 0) 51 (-1)) (3, 0, 1) i)) (am_ul (am_ul N (3, 0, 0) 2 0) (3, 0, 0) 3 0)) : jn 2 mX12_init 44 20680 (AL.take 78) (UL.drop 44) 0 [(0, .inr (.inr (3, 0, 0)))] [] M N (AL.take 122) (UL.drop 0) post := by
  refine n_aload_n 0 dX12_init_0 rfl ?_
  refine n_objI dX12_init_1 (am_in6 40 rfl rfl) (am_in1 30 rfl rfl) (am_in1 31 rfl rfl) (by decide) (by decide) ?_
  refine n_aload_n 0 dX12_init_4 rfl ?_
  refine n_sipush (v := 1635) dX12_init_5 (by decide) ?_
  refine x_ints (k := 78) (nc := 43) (ns := 19045) (c0 := (3, 0, 1)) (n := 1635) dX12_init_8 (am_in1 61 rfl rfl) rfl (by decide) (by decide) rfl (by decide +kernel) hz ?_
  have za1 := hz.mono (show 78 ≤ 79 by decide)
  refine x_putR dX12_init_10 fnX12_7 (by decide +kernel) rfl rfl (show ((3, 0, 0), 0) :: UL.drop 44 = UL.drop 43 from rfl) ?_
  refine n_aload_n 0 dX12_init_13 rfl ?_
  refine n_sipush (v := 1635) dX12_init_14 (by decide) ?_
  refine x_ints (k := 79) (nc := 42) (ns := 17410) (c0 := (3, 0, 2)) (n := 1635) dX12_init_17 (am_in1 61 rfl rfl) rfl (by decide) (by decide) rfl (by decide +kernel) za1 ?_
  have za2 := za1.mono (show 79 ≤ 80 by decide)
  refine x_putR dX12_init_19 fnX12_13 (by decide +kernel) rfl rfl (show ((3, 0, 0), 1) :: UL.drop 43 = UL.drop 42 from rfl) ?_
  refine n_aload_n 0 dX12_init_22 rfl ?_
  refine n_sipush (v := 400) dX12_init_23 (by decide) ?_
  refine x_ints (k := 80) (nc := 41) (ns := 17010) (c0 := (3, 0, 3)) (n := 400) dX12_init_26 (am_in1 61 rfl rfl) rfl (by decide) (by decide) rfl (by decide +kernel) za2 ?_
  have za3 := za2.mono (show 80 ≤ 81 by decide)
  refine x_putR dX12_init_28 fnX12_16 (by decide +kernel) rfl rfl (show ((3, 0, 0), 5) :: UL.drop 42 = UL.drop 41 from rfl) ?_
  refine n_aload_n 0 dX12_init_31 rfl ?_
  refine n_sipush (v := 400) dX12_init_32 (by decide) ?_
  refine x_ints (k := 81) (nc := 40) (ns := 16610) (c0 := (3, 0, 4)) (n := 400) dX12_init_35 (am_in1 61 rfl rfl) rfl (by decide) (by decide) rfl (by decide +kernel) za3 ?_
  have za4 := za3.mono (show 81 ≤ 82 by decide)
  refine x_putR dX12_init_37 fnX12_19 (by decide +kernel) rfl rfl (show ((3, 0, 0), 6) :: UL.drop 41 = UL.drop 40 from rfl) ?_
  refine n_aload_n 0 dX12_init_40 rfl ?_
  refine n_sipush (v := 400) dX12_init_41 (by decide) ?_
  refine x_ints (k := 82) (nc := 39) (ns := 16210) (c0 := (3, 0, 5)) (n := 400) dX12_init_44 (am_in1 61 rfl rfl) rfl (by decide) (by decide) rfl (by decide +kernel) za4 ?_
  have za5 := za4.mono (show 82 ≤ 83 by decide)
  refine x_putR dX12_init_46 fnX12_22 (by decide +kernel) rfl rfl (show ((3, 0, 0), 7) :: UL.drop 40 = UL.drop 39 from rfl) ?_
  refine n_aload_n 0 dX12_init_49 rfl ?_
  refine n_sipush (v := 400) dX12_init_50 (by decide) ?_
  refine x_ints (k := 83) (nc := 38) (ns := 15810) (c0 := (3, 0, 6)) (n := 400) dX12_init_53 (am_in1 61 rfl rfl) rfl (by decide) (by decide) rfl (by decide +kernel) za5 ?_
  have za6 := za5.mono (show 83 ≤ 84 by decide)
  refine x_putR dX12_init_55 fnX12_25 (by decide +kernel) rfl rfl (show ((3, 0, 0), 8) :: UL.drop 39 = UL.drop 38 from rfl) ?_
  refine n_aload_n 0 dX12_init_58 rfl ?_
  refine n_sipush (v := 400) dX12_init_59 (by decide) ?_
  refine x_ints (k := 84) (nc := 37) (ns := 15410) (c0 := (3, 0, 7)) (n := 400) dX12_init_62 (am_in1 61 rfl rfl) rfl (by decide) (by decide) rfl (by decide +kernel) za6 ?_
  have za7 := za6.mono (show 84 ≤ 85 by decide)
  refine x_putR dX12_init_64 fnX12_28 (by decide +kernel) rfl rfl (show ((3, 0, 0), 9) :: UL.drop 38 = UL.drop 37 from rfl) ?_
  refine n_aload_n 0 dX12_init_67 rfl ?_
  refine n_bipush (v := 30) dX12_init_68 (by decide) ?_
  refine x_ints (k := 85) (nc := 36) (ns := 15380) (c0 := (3, 0, 8)) (n := 30) dX12_init_70 (am_in1 61 rfl rfl) rfl (by decide) (by decide) rfl (by decide +kernel) za7 ?_
  have za8 := za7.mono (show 85 ≤ 86 by decide)
  refine x_putR dX12_init_72 fnX12_31 (by decide +kernel) rfl rfl (show ((3, 0, 0), 15) :: UL.drop 37 = UL.drop 36 from rfl) ?_
  refine n_aload_n 0 dX12_init_75 rfl ?_
  refine n_bipush (v := 30) dX12_init_76 (by decide) ?_
  refine x_ints (k := 86) (nc := 35) (ns := 15350) (c0 := (3, 0, 9)) (n := 30) dX12_init_78 (am_in1 61 rfl rfl) rfl (by decide) (by decide) rfl (by decide +kernel) za8 ?_
  have za9 := za8.mono (show 86 ≤ 87 by decide)
  refine x_putR dX12_init_80 fnX12_34 (by decide +kernel) rfl rfl (show ((3, 0, 0), 16) :: UL.drop 36 = UL.drop 35 from rfl) ?_
  refine n_aload_n 0 dX12_init_83 rfl ?_
  refine n_bipush (v := 30) dX12_init_84 (by decide) ?_
  refine x_ints (k := 87) (nc := 34) (ns := 15320) (c0 := (3, 0, 10)) (n := 30) dX12_init_86 (am_in1 61 rfl rfl) rfl (by decide) (by decide) rfl (by decide +kernel) za9 ?_
  have za10 := za9.mono (show 87 ≤ 88 by decide)
  refine x_putR dX12_init_88 fnX12_37 (by decide +kernel) rfl rfl (show ((3, 0, 0), 17) :: UL.drop 35 = UL.drop 34 from rfl) ?_
  refine n_aload_n 0 dX12_init_91 rfl ?_
  refine n_bipush (v := 8) dX12_init_92 (by decide) ?_
  refine x_ints (k := 88) (nc := 33) (ns := 15312) (c0 := (3, 0, 11)) (n := 8) dX12_init_94 (am_in1 61 rfl rfl) rfl (by decide) (by decide) rfl (by decide +kernel) za10 ?_
  have za11 := za10.mono (show 88 ≤ 89 by decide)
  refine x_putR dX12_init_96 fnX12_40 (by decide +kernel) rfl rfl (show ((3, 0, 0), 18) :: UL.drop 34 = UL.drop 33 from rfl) ?_
  refine n_aload_n 0 dX12_init_99 rfl ?_
  refine n_bipush (v := 8) dX12_init_100 (by decide) ?_
  refine x_ints (k := 89) (nc := 32) (ns := 15304) (c0 := (3, 0, 12)) (n := 8) dX12_init_102 (am_in1 61 rfl rfl) rfl (by decide) (by decide) rfl (by decide +kernel) za11 ?_
  have za12 := za11.mono (show 89 ≤ 90 by decide)
  refine x_putR dX12_init_104 fnX12_43 (by decide +kernel) rfl rfl (show ((3, 0, 0), 19) :: UL.drop 33 = UL.drop 32 from rfl) ?_
  refine n_aload_n 0 dX12_init_107 rfl ?_
  refine n_bipush (v := 8) dX12_init_108 (by decide) ?_
  refine x_ints (k := 90) (nc := 31) (ns := 15296) (c0 := (3, 0, 13)) (n := 8) dX12_init_110 (am_in1 61 rfl rfl) rfl (by decide) (by decide) rfl (by decide +kernel) za12 ?_
  have za13 := za12.mono (show 90 ≤ 91 by decide)
  refine x_putR dX12_init_112 fnX12_46 (by decide +kernel) rfl rfl (show ((3, 0, 0), 20) :: UL.drop 32 = UL.drop 31 from rfl) ?_
  refine n_aload_n 0 dX12_init_115 rfl ?_
  refine n_bipush (v := 8) dX12_init_116 (by decide) ?_
  refine x_ints (k := 91) (nc := 30) (ns := 15288) (c0 := (3, 0, 14)) (n := 8) dX12_init_118 (am_in1 61 rfl rfl) rfl (by decide) (by decide) rfl (by decide +kernel) za13 ?_
  have za14 := za13.mono (show 91 ≤ 92 by decide)
  refine x_putR dX12_init_120 fnX12_49 (by decide +kernel) rfl rfl (show ((3, 0, 0), 21) :: UL.drop 31 = UL.drop 30 from rfl) ?_
  refine n_aload_n 0 dX12_init_123 rfl ?_
  refine n_bipush (v := 8) dX12_init_124 (by decide) ?_
  refine x_ints (k := 92) (nc := 29) (ns := 15280) (c0 := (3, 0, 15)) (n := 8) dX12_init_126 (am_in1 61 rfl rfl) rfl (by decide) (by decide) rfl (by decide +kernel) za14 ?_
  have za15 := za14.mono (show 92 ≤ 93 by decide)
  refine x_putR dX12_init_128 fnX12_52 (by decide +kernel) rfl rfl (show ((3, 0, 0), 22) :: UL.drop 30 = UL.drop 29 from rfl) ?_
  refine n_aload_n 0 dX12_init_131 rfl ?_
  refine n_bipush (v := 60) dX12_init_132 (by decide) ?_
  refine x_ints (k := 93) (nc := 28) (ns := 15220) (c0 := (3, 0, 16)) (n := 60) dX12_init_134 (am_in1 61 rfl rfl) rfl (by decide) (by decide) rfl (by decide +kernel) za15 ?_
  have za16 := za15.mono (show 93 ≤ 94 by decide)
  refine x_putR dX12_init_136 fnX12_55 (by decide +kernel) rfl rfl (show ((3, 0, 0), 23) :: UL.drop 29 = UL.drop 28 from rfl) ?_
  refine n_aload_n 0 dX12_init_139 rfl ?_
  refine n_bipush (v := 60) dX12_init_140 (by decide) ?_
  refine x_ints (k := 94) (nc := 27) (ns := 15160) (c0 := (3, 0, 17)) (n := 60) dX12_init_142 (am_in1 61 rfl rfl) rfl (by decide) (by decide) rfl (by decide +kernel) za16 ?_
  have za17 := za16.mono (show 94 ≤ 95 by decide)
  refine x_putR dX12_init_144 fnX12_58 (by decide +kernel) rfl rfl (show ((3, 0, 0), 24) :: UL.drop 28 = UL.drop 27 from rfl) ?_
  refine n_aload_n 0 dX12_init_147 rfl ?_
  refine n_bipush (v := 60) dX12_init_148 (by decide) ?_
  refine x_ints (k := 95) (nc := 26) (ns := 15100) (c0 := (3, 0, 18)) (n := 60) dX12_init_150 (am_in1 61 rfl rfl) rfl (by decide) (by decide) rfl (by decide +kernel) za17 ?_
  have za18 := za17.mono (show 95 ≤ 96 by decide)
  refine x_putR dX12_init_152 fnX12_61 (by decide +kernel) rfl rfl (show ((3, 0, 0), 25) :: UL.drop 27 = UL.drop 26 from rfl) ?_
  refine n_aload_n 0 dX12_init_155 rfl ?_
  refine n_bipush (v := 40) dX12_init_156 (by decide) ?_
  refine x_ints (k := 96) (nc := 25) (ns := 15060) (c0 := (3, 0, 19)) (n := 40) dX12_init_158 (am_in1 61 rfl rfl) rfl (by decide) (by decide) rfl (by decide +kernel) za18 ?_
  have za19 := za18.mono (show 96 ≤ 97 by decide)
  refine x_putR dX12_init_160 fnX12_64 (by decide +kernel) rfl rfl (show ((3, 0, 0), 26) :: UL.drop 26 = UL.drop 25 from rfl) ?_
  refine n_aload_n 0 dX12_init_163 rfl ?_
  refine n_iconst (v := 5) dX12_init_164 (by decide) ?_
  refine x_ints (k := 97) (nc := 24) (ns := 15055) (c0 := (3, 0, 20)) (n := 5) dX12_init_165 (am_in1 61 rfl rfl) rfl (by decide) (by decide) rfl (by decide +kernel) za19 ?_
  have za20 := za19.mono (show 97 ≤ 98 by decide)
  refine x_putR dX12_init_167 fnX12_67 (by decide +kernel) rfl rfl (show ((3, 0, 0), 27) :: UL.drop 25 = UL.drop 24 from rfl) ?_
  refine n_aload_n 0 dX12_init_170 rfl ?_
  refine n_bipush (v := 20) dX12_init_171 (by decide) ?_
  refine x_ints (k := 98) (nc := 23) (ns := 15035) (c0 := (3, 0, 21)) (n := 20) dX12_init_173 (am_in1 61 rfl rfl) rfl (by decide) (by decide) rfl (by decide +kernel) za20 ?_
  have za21 := za20.mono (show 98 ≤ 99 by decide)
  refine x_putR dX12_init_175 fnX12_70 (by decide +kernel) rfl rfl (show ((3, 0, 0), 28) :: UL.drop 24 = UL.drop 23 from rfl) ?_
  refine n_aload_n 0 dX12_init_178 rfl ?_
  refine n_iconst (v := 5) dX12_init_179 (by decide) ?_
  refine x_bools (k := 99) (nc := 22) (ns := 15030) (c0 := (3, 0, 22)) (n := 5) dX12_init_180 (am_in7 1 rfl rfl) rfl (by decide) (by decide) rfl (by decide +kernel) za21 ?_
  have za22 := za21.mono (show 99 ≤ 100 by decide)
  refine x_putR dX12_init_182 fnX12_73 (by decide +kernel) rfl rfl (show ((3, 0, 0), 29) :: UL.drop 23 = UL.drop 22 from rfl) ?_
  refine n_aload_n 0 dX12_init_185 rfl ?_
  refine n_iconst (v := -1) dX12_init_186 (by decide) ?_
  refine n_putI dX12_init_187 fnX12_77 (by decide +kernel) rfl ?_
  have za23 := Zr.u (a := (3, 0, 0)) (i := 30) (x := -1) za22 (by decide +kernel)
  refine n_aload_n 0 dX12_init_190 rfl ?_
  refine n_iconst (v := 5) dX12_init_191 (by decide) ?_
  refine x_longs (k := 100) (nc := 21) (ns := 15025) (c0 := (3, 0, 23)) (n := 5) dX12_init_192 (am_in1 199 rfl rfl) rfl (by decide) (by decide) rfl (by decide +kernel) za23 ?_
  have za24 := za23.mono (show 100 ≤ 101 by decide)
  refine x_putR dX12_init_194 fnX12_81 (by decide +kernel) rfl rfl (show ((3, 0, 0), 32) :: UL.drop 22 = UL.drop 21 from rfl) ?_
  refine n_aload_n 0 dX12_init_197 rfl ?_
  refine n_bipush (v := 64) dX12_init_198 (by decide) ?_
  refine x_longs (k := 101) (nc := 20) (ns := 14961) (c0 := (3, 0, 24)) (n := 64) dX12_init_200 (am_in1 199 rfl rfl) rfl (by decide) (by decide) rfl (by decide +kernel) za24 ?_
  have za25 := za24.mono (show 101 ≤ 102 by decide)
  refine x_putR dX12_init_202 fnX12_85 (by decide +kernel) rfl rfl (show ((3, 0, 0), 33) :: UL.drop 21 = UL.drop 20 from rfl) ?_
  refine n_aload_n 0 dX12_init_205 rfl ?_
  refine n_bipush (v := 64) dX12_init_206 (by decide) ?_
  refine x_bools (k := 102) (nc := 19) (ns := 14897) (c0 := (3, 0, 25)) (n := 64) dX12_init_208 (am_in7 1 rfl rfl) rfl (by decide) (by decide) rfl (by decide +kernel) za25 ?_
  have za26 := za25.mono (show 102 ≤ 103 by decide)
  refine x_putR dX12_init_210 fnX12_88 (by decide +kernel) rfl rfl (show ((3, 0, 0), 34) :: UL.drop 20 = UL.drop 19 from rfl) ?_
  refine n_aload_n 0 dX12_init_213 rfl ?_
  refine n_bipush (v := 64) dX12_init_214 (by decide) ?_
  refine x_ints (k := 103) (nc := 18) (ns := 14833) (c0 := (3, 0, 26)) (n := 64) dX12_init_216 (am_in1 61 rfl rfl) rfl (by decide) (by decide) rfl (by decide +kernel) za26 ?_
  have za27 := za26.mono (show 103 ≤ 104 by decide)
  refine x_putR dX12_init_218 fnX12_91 (by decide +kernel) rfl rfl (show ((3, 0, 0), 35) :: UL.drop 19 = UL.drop 18 from rfl) ?_
  refine n_aload_n 0 dX12_init_221 rfl ?_
  refine n_bipush (v := 64) dX12_init_222 (by decide) ?_
  refine x_bools (k := 104) (nc := 17) (ns := 14769) (c0 := (3, 0, 27)) (n := 64) dX12_init_224 (am_in7 1 rfl rfl) rfl (by decide) (by decide) rfl (by decide +kernel) za27 ?_
  have za28 := za27.mono (show 104 ≤ 105 by decide)
  refine x_putR dX12_init_226 fnX12_94 (by decide +kernel) rfl rfl (show ((3, 0, 0), 36) :: UL.drop 18 = UL.drop 17 from rfl) ?_
  refine n_aload_n 0 dX12_init_229 rfl ?_
  refine n_bipush (v := 64) dX12_init_230 (by decide) ?_
  refine x_bools (k := 105) (nc := 16) (ns := 14705) (c0 := (3, 0, 28)) (n := 64) dX12_init_232 (am_in7 1 rfl rfl) rfl (by decide) (by decide) rfl (by decide +kernel) za28 ?_
  have za29 := za28.mono (show 105 ≤ 106 by decide)
  refine x_putR dX12_init_234 fnX12_97 (by decide +kernel) rfl rfl (show ((3, 0, 0), 37) :: UL.drop 17 = UL.drop 16 from rfl) ?_
  refine n_aload_n 0 dX12_init_237 rfl ?_
  refine n_bipush (v := 64) dX12_init_238 (by decide) ?_
  refine x_ints (k := 106) (nc := 15) (ns := 14641) (c0 := (3, 0, 29)) (n := 64) dX12_init_240 (am_in1 61 rfl rfl) rfl (by decide) (by decide) rfl (by decide +kernel) za29 ?_
  have za30 := za29.mono (show 106 ≤ 107 by decide)
  refine x_putR dX12_init_242 fnX12_100 (by decide +kernel) rfl rfl (show ((3, 0, 0), 38) :: UL.drop 16 = UL.drop 15 from rfl) ?_
  refine n_aload_n 0 dX12_init_245 rfl ?_
  refine n_bipush (v := 64) dX12_init_246 (by decide) ?_
  refine x_bools (k := 107) (nc := 14) (ns := 14577) (c0 := (3, 0, 30)) (n := 64) dX12_init_248 (am_in7 1 rfl rfl) rfl (by decide) (by decide) rfl (by decide +kernel) za30 ?_
  have za31 := za30.mono (show 107 ≤ 108 by decide)
  refine x_putR dX12_init_250 fnX12_103 (by decide +kernel) rfl rfl (show ((3, 0, 0), 39) :: UL.drop 15 = UL.drop 14 from rfl) ?_
  refine n_aload_n 0 dX12_init_253 rfl ?_
  refine n_bipush (v := 8) dX12_init_254 (by decide) ?_
  refine x_ints (k := 108) (nc := 13) (ns := 14569) (c0 := (3, 0, 31)) (n := 8) dX12_init_256 (am_in1 61 rfl rfl) rfl (by decide) (by decide) rfl (by decide +kernel) za31 ?_
  have za32 := za31.mono (show 108 ≤ 109 by decide)
  refine x_putR dX12_init_258 fnX12_106 (by decide +kernel) rfl rfl (show ((3, 0, 0), 41) :: UL.drop 14 = UL.drop 13 from rfl) ?_
  refine n_aload_n 0 dX12_init_261 rfl ?_
  refine n_bipush (v := 12) dX12_init_262 (by decide) ?_
  refine x_ints (k := 109) (nc := 12) (ns := 14557) (c0 := (3, 0, 32)) (n := 12) dX12_init_264 (am_in1 61 rfl rfl) rfl (by decide) (by decide) rfl (by decide +kernel) za32 ?_
  have za33 := za32.mono (show 109 ≤ 110 by decide)
  refine x_putR dX12_init_266 fnX12_109 (by decide +kernel) rfl rfl (show ((3, 0, 0), 43) :: UL.drop 13 = UL.drop 12 from rfl) ?_
  refine n_aload_n 0 dX12_init_269 rfl ?_
  refine n_bipush (v := 12) dX12_init_270 (by decide) ?_
  refine x_ints (k := 110) (nc := 11) (ns := 14545) (c0 := (3, 0, 33)) (n := 12) dX12_init_272 (am_in1 61 rfl rfl) rfl (by decide) (by decide) rfl (by decide +kernel) za33 ?_
  have za34 := za33.mono (show 110 ≤ 111 by decide)
  refine x_putR dX12_init_274 fnX12_112 (by decide +kernel) rfl rfl (show ((3, 0, 0), 44) :: UL.drop 12 = UL.drop 11 from rfl) ?_
  refine n_aload_n 0 dX12_init_277 rfl ?_
  refine n_iconst (v := -1) dX12_init_278 (by decide) ?_
  refine n_putI dX12_init_279 fnX12_115 (by decide +kernel) rfl ?_
  have za35 := Zr.u (a := (3, 0, 0)) (i := 51) (x := -1) za34 (by decide +kernel)
  refine n_aload_n 0 dX12_init_282 rfl ?_
  refine n_bipush (v := 9) dX12_init_283 (by decide) ?_
  refine x_ints (k := 111) (nc := 10) (ns := 14536) (c0 := (3, 0, 34)) (n := 9) dX12_init_285 (am_in1 61 rfl rfl) rfl (by decide) (by decide) rfl (by decide +kernel) za35 ?_
  have za36 := za35.mono (show 111 ≤ 112 by decide)
  refine x_putR dX12_init_287 fnX12_118 (by decide +kernel) rfl rfl (show ((3, 0, 0), 52) :: UL.drop 11 = UL.drop 10 from rfl) ?_
  refine n_aload_n 0 dX12_init_290 rfl ?_
  refine n_sipush (v := 216) dX12_init_291 (by decide) ?_
  refine x_ints (k := 112) (nc := 9) (ns := 14320) (c0 := (3, 0, 35)) (n := 216) dX12_init_294 (am_in1 61 rfl rfl) rfl (by decide) (by decide) rfl (by decide +kernel) za36 ?_
  have za37 := za36.mono (show 112 ≤ 113 by decide)
  refine x_putR dX12_init_296 fnX12_121 (by decide +kernel) rfl rfl (show ((3, 0, 0), 53) :: UL.drop 10 = UL.drop 9 from rfl) ?_
  refine n_aload_n 0 dX12_init_299 rfl ?_
  refine n_sipush (v := 216) dX12_init_300 (by decide) ?_
  refine x_ints (k := 113) (nc := 8) (ns := 14104) (c0 := (3, 0, 36)) (n := 216) dX12_init_303 (am_in1 61 rfl rfl) rfl (by decide) (by decide) rfl (by decide +kernel) za37 ?_
  have za38 := za37.mono (show 113 ≤ 114 by decide)
  refine x_putR dX12_init_305 fnX12_124 (by decide +kernel) rfl rfl (show ((3, 0, 0), 54) :: UL.drop 9 = UL.drop 8 from rfl) ?_
  refine n_aload_n 0 dX12_init_308 rfl ?_
  refine n_sipush (v := 216) dX12_init_309 (by decide) ?_
  refine x_ints (k := 114) (nc := 7) (ns := 13888) (c0 := (3, 0, 37)) (n := 216) dX12_init_312 (am_in1 61 rfl rfl) rfl (by decide) (by decide) rfl (by decide +kernel) za38 ?_
  have za39 := za38.mono (show 114 ≤ 115 by decide)
  refine x_putR dX12_init_314 fnX12_127 (by decide +kernel) rfl rfl (show ((3, 0, 0), 55) :: UL.drop 8 = UL.drop 7 from rfl) ?_
  refine n_aload_n 0 dX12_init_317 rfl ?_
  refine n_sipush (v := 216) dX12_init_318 (by decide) ?_
  refine x_ints (k := 115) (nc := 6) (ns := 13672) (c0 := (3, 0, 38)) (n := 216) dX12_init_321 (am_in1 61 rfl rfl) rfl (by decide) (by decide) rfl (by decide +kernel) za39 ?_
  have za40 := za39.mono (show 115 ≤ 116 by decide)
  refine x_putR dX12_init_323 fnX12_130 (by decide +kernel) rfl rfl (show ((3, 0, 0), 56) :: UL.drop 7 = UL.drop 6 from rfl) ?_
  refine n_aload_n 0 dX12_init_326 rfl ?_
  refine n_sipush (v := 6300) dX12_init_327 (by decide) ?_
  refine x_ints (k := 116) (nc := 5) (ns := 7372) (c0 := (3, 0, 39)) (n := 6300) dX12_init_330 (am_in1 61 rfl rfl) rfl (by decide) (by decide) rfl (by decide +kernel) za40 ?_
  have za41 := za40.mono (show 116 ≤ 117 by decide)
  refine x_putR dX12_init_332 fnX12_133 (by decide +kernel) rfl rfl (show ((3, 0, 0), 57) :: UL.drop 6 = UL.drop 5 from rfl) ?_
  refine n_aload_n 0 dX12_init_335 rfl ?_
  refine n_sipush (v := 6300) dX12_init_336 (by decide) ?_
  refine x_ints (k := 117) (nc := 4) (ns := 1072) (c0 := (3, 0, 40)) (n := 6300) dX12_init_339 (am_in1 61 rfl rfl) rfl (by decide) (by decide) rfl (by decide +kernel) za41 ?_
  have za42 := za41.mono (show 117 ≤ 118 by decide)
  refine x_putR dX12_init_341 fnX12_136 (by decide +kernel) rfl rfl (show ((3, 0, 0), 58) :: UL.drop 5 = UL.drop 4 from rfl) ?_
  refine n_aload_n 0 dX12_init_344 rfl ?_
  refine n_bipush (v := 64) dX12_init_345 (by decide) ?_
  refine x_longs (k := 118) (nc := 3) (ns := 1008) (c0 := (3, 0, 41)) (n := 64) dX12_init_347 (am_in1 199 rfl rfl) rfl (by decide) (by decide) rfl (by decide +kernel) za42 ?_
  have za43 := za42.mono (show 118 ≤ 119 by decide)
  refine x_putR dX12_init_349 fnX12_139 (by decide +kernel) rfl rfl (show ((3, 0, 0), 59) :: UL.drop 4 = UL.drop 3 from rfl) ?_
  refine n_aload_n 0 dX12_init_352 rfl ?_
  refine n_bipush (v := 8) dX12_init_353 (by decide) ?_
  refine x_longs (k := 119) (nc := 2) (ns := 1000) (c0 := (3, 0, 42)) (n := 8) dX12_init_355 (am_in1 199 rfl rfl) rfl (by decide) (by decide) rfl (by decide +kernel) za43 ?_
  have za44 := za43.mono (show 119 ≤ 120 by decide)
  refine x_putR dX12_init_357 fnX12_142 (by decide +kernel) rfl rfl (show ((3, 0, 0), 60) :: UL.drop 3 = UL.drop 2 from rfl) ?_
  refine n_aload_n 0 dX12_init_360 rfl ?_
  refine n_sipush (v := 500) dX12_init_361 (by decide) ?_
  refine x_bytes (k := 120) (nc := 1) (ns := 500) (c0 := (3, 0, 43)) (n := 500) dX12_init_364 (am_in5 189 rfl rfl) rfl (by decide) (by decide) rfl (by decide +kernel) za44 ?_
  have za45 := za44.mono (show 120 ≤ 121 by decide)
  refine x_putR dX12_init_366 fnX12_145 (by decide +kernel) rfl rfl (show ((3, 0, 0), 61) :: UL.drop 2 = UL.drop 1 from rfl) ?_
  refine n_aload_n 0 dX12_init_369 rfl ?_
  refine n_sipush (v := 500) dX12_init_370 (by decide) ?_
  refine x_bytes (k := 121) (nc := 0) (ns := 0) (c0 := (3, 0, 44)) (n := 500) dX12_init_373 (am_in5 189 rfl rfl) rfl (by decide) (by decide) rfl (by decide +kernel) za45 ?_
  have za46 := za45.mono (show 121 ≤ 122 by decide)
  refine x_putR dX12_init_375 fnX12_149 (by decide +kernel) rfl rfl (show ((3, 0, 0), 62) :: UL.drop 1 = UL.drop 0 from rfl) ?_
  refine n_aload_n 0 dX12_init_378 rfl ?_
  refine n_sub (dm' := MLs) (a := (3, 0, 0)) (As := []) (st := []) (post2 := fun M1 N1 => M1 = am_s (am_u (am_u (M) (3, 0, 0) 30 (-1)) (3, 0, 0) 51 (-1)) (3, 0, 1) (fun i => if i < 1635 then begF i else (am_u (am_u (M) (3, 0, 0) 30 (-1)) (3, 0, 0) 51 (-1)) (3, 0, 1) i) ∧ N1 = am_ul (am_ul N (3, 0, 0) 2 0) (3, 0, 0) 3 0) dX12_init_379 mqX12 mbX12_begins rfl rfl (by decide) (by decide) (show 1 < 2 by decide) (by decide) rfl rfl (fun c hc => MLs_in c hc) (by decide) (ful_of (by decide +kernel)) (k_X12_begins (d := 0) (MLs_d3) (r_begins ⟨rfl, rfl⟩)) (fun M1 N1 hb c hc hn => ?_) (fun M1 N1 hb => ?_)
  · rw [hb.1, hb.2]
    exact ⟨am_s_other _ _ (fun w => hn (by rw [w]; decide)), by rw [am_ul_o _ _ _ (fun w => hn (by rw [w]; decide)), am_ul_o _ _ _ (fun w => hn (by rw [w]; decide))]⟩
  exact n_ret dX12_init_382 (by rw [hb.1, hb.2]; exact h)
