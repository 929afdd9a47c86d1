theorem dfX0 : ∀ j, j < 15 → defaultValue (tyX0 j) = (if (fT 0 j).isSome = true then .null else .int 0) := by decide +kernel
theorem dfX1 : ∀ j, j < 7 → defaultValue (tyX1 j) = (if (fT 1 j).isSome = true then .null else .int 0) := by decide +kernel
theorem dfX2 : ∀ j, j < 2 → defaultValue (tyX2 j) = (if (fT 2 j).isSome = true then .null else .int 0) := by decide +kernel
theorem dfX3 : ∀ j, j < 3 → defaultValue (tyX3 j) = (if (fT 3 j).isSome = true then .null else .int 0) := by decide +kernel
theorem dfX4 : ∀ j, j < 11 → defaultValue (tyX4 j) = (if (fT 4 j).isSome = true then .null else .int 0) := by decide +kernel
theorem dfX5 : ∀ j, j < 7 → defaultValue (tyX5 j) = (if (fT 5 j).isSome = true then .null else .int 0) := by decide +kernel
theorem dfX6 : ∀ j, j < 5 → defaultValue (tyX6 j) = (if (fT 6 j).isSome = true then .null else .int 0) := by decide +kernel
theorem dfX7 : ∀ j, j < 10 → defaultValue (tyX7 j) = (if (fT 7 j).isSome = true then .null else .int 0) := by decide +kernel
theorem dfX8 : ∀ j, j < 66 → defaultValue (tyX8 j) = (if (fT 8 j).isSome = true then .null else .int 0) := by decide +kernel
theorem oi_inst : Cond.instanceMethod Lib.objectInit ∈ lg_tbl := lg_at 134 (by decide +kernel) rfl
theorem oi_code : Cond.code Lib.objectInit ⟨#[0xb1]⟩ 1 none ∈ lg_tbl := lg_at 135 (by decide +kernel) rfl
theorem ar_B : Cond.arrayClass .byte ∈ lg_tbl := lg_at 177 (by decide +kernel) rfl
theorem ar_I : Cond.arrayClass .int ∈ lg_tbl := lg_at 178 (by decide +kernel) rfl
theorem ar_J : Cond.arrayClass .long ∈ lg_tbl := lg_at 179 (by decide +kernel) rfl
theorem ar_Z : Cond.arrayClass .boolean ∈ lg_tbl := lg_at 1408 (by decide +kernel) rfl
theorem oi_RX7 : Cond.methodLink RX7 3 Lib.objectInit ∈ lg_tbl := lg_at 133 (by decide +kernel) rfl
theorem oi_RX0 : Cond.methodLink RX0 3 Lib.objectInit ∈ lg_tbl := lg_at 147 (by decide +kernel) rfl
theorem oi_RX1 : Cond.methodLink RX1 3 Lib.objectInit ∈ lg_tbl := lg_at 153 (by decide +kernel) rfl
theorem oi_RX2 : Cond.methodLink RX2 3 Lib.objectInit ∈ lg_tbl := lg_at 398 (by decide +kernel) rfl
theorem oi_RX3 : Cond.methodLink RX3 3 Lib.objectInit ∈ lg_tbl := lg_at 355 (by decide +kernel) rfl
theorem oi_RX4 : Cond.methodLink RX4 3 Lib.objectInit ∈ lg_tbl := lg_at 141 (by decide +kernel) rfl
theorem oi_RX5 : Cond.methodLink RX5 3 Lib.objectInit ∈ lg_tbl := lg_at 316 (by decide +kernel) rfl
theorem oi_RX6 : Cond.methodLink RX6 3 Lib.objectInit ∈ lg_tbl := lg_at 375 (by decide +kernel) rfl
theorem oi_RX8 : Cond.methodLink RX8 7 Lib.objectInit ∈ lg_tbl := lg_at 1133 (by decide +kernel) rfl
theorem dX5_init_0 : decode cX5_init 0 = .ok (.aload_n 0, 1) := by decide +kernel
theorem dX5_init_1 : decode cX5_init 1 = .ok (.invokespecial 3, 3) := by decide +kernel
theorem dX5_init_4 : decode cX5_init 4 = .ok (.aload_n 0, 1) := by decide +kernel
theorem dX5_init_5 : decode cX5_init 5 = .ok (.iconst 0, 1) := by decide +kernel
theorem dX5_init_6 : decode cX5_init 6 = .ok (.putfield 9, 3) := by decide +kernel
theorem dX5_init_9 : decode cX5_init 9 = .ok (.aload_n 0, 1) := by decide +kernel
theorem dX5_init_10 : decode cX5_init 10 = .ok (.iconst 0, 1) := by decide +kernel
theorem dX5_init_11 : decode cX5_init 11 = .ok (.putfield 15, 3) := by decide +kernel
theorem dX5_init_14 : decode cX5_init 14 = .ok (.aload_n 0, 1) := by decide +kernel
theorem dX5_init_15 : decode cX5_init 15 = .ok (.iconst 0, 1) := by decide +kernel
theorem dX5_init_16 : decode cX5_init 16 = .ok (.putfield 18, 3) := by decide +kernel
theorem dX5_init_19 : decode cX5_init 19 = .ok (.aload_n 0, 1) := by decide +kernel
theorem dX5_init_20 : decode cX5_init 20 = .ok (.iconst 0, 1) := by decide +kernel
theorem dX5_init_21 : decode cX5_init 21 = .ok (.putfield 21, 3) := by decide +kernel
theorem dX5_init_24 : decode cX5_init 24 = .ok (.aload_n 0, 1) := by decide +kernel
theorem dX5_init_25 : decode cX5_init 25 = .ok (.bipush 6, 2) := by decide +kernel
theorem dX5_init_27 : decode cX5_init 27 = .ok (.newarray .int, 2) := by decide +kernel
theorem dX5_init_29 : decode cX5_init 29 = .ok (.putfield 24, 3) := by decide +kernel
theorem dX5_init_32 : decode cX5_init 32 = .ok (.aload_n 0, 1) := by decide +kernel
theorem dX5_init_33 : decode cX5_init 33 = .ok (.bipush 6, 2) := by decide +kernel
theorem dX5_init_35 : decode cX5_init 35 = .ok (.newarray .int, 2) := by decide +kernel
theorem dX5_init_37 : decode cX5_init 37 = .ok (.putfield 28, 3) := by decide +kernel
theorem dX5_init_40 : decode cX5_init 40 = .ok (.aload_n 0, 1) := by decide +kernel
theorem dX5_init_41 : decode cX5_init 41 = .ok (.sipush 240, 3) := by decide +kernel
theorem dX5_init_44 : decode cX5_init 44 = .ok (.newarray .int, 2) := by decide +kernel
theorem dX5_init_46 : decode cX5_init 46 = .ok (.putfield 31, 3) := by decide +kernel
theorem dX5_init_49 : decode cX5_init 49 = .ok (.return_, 1) := by decide +kernel
theorem dX1_init_0 : decode cX1_init 0 = .ok (.aload_n 0, 1) := by decide +kernel
theorem dX1_init_1 : decode cX1_init 1 = .ok (.invokespecial 3, 3) := by decide +kernel
theorem dX1_init_4 : decode cX1_init 4 = .ok (.aload_n 0, 1) := by decide +kernel
theorem dX1_init_5 : decode cX1_init 5 = .ok (.bipush 9, 2) := by decide +kernel
theorem dX1_init_7 : decode cX1_init 7 = .ok (.newarray .int, 2) := by decide +kernel
theorem dX1_init_9 : decode cX1_init 9 = .ok (.putfield 9, 3) := by decide +kernel
theorem dX1_init_12 : decode cX1_init 12 = .ok (.aload_n 0, 1) := by decide +kernel
theorem dX1_init_13 : decode cX1_init 13 = .ok (.sipush 400, 3) := by decide +kernel
theorem dX1_init_16 : decode cX1_init 16 = .ok (.newarray .int, 2) := by decide +kernel
theorem dX1_init_18 : decode cX1_init 18 = .ok (.putfield 15, 3) := by decide +kernel
theorem dX1_init_21 : decode cX1_init 21 = .ok (.aload_n 0, 1) := by decide +kernel
theorem dX1_init_22 : decode cX1_init 22 = .ok (.bipush 13, 2) := by decide +kernel
theorem dX1_init_24 : decode cX1_init 24 = .ok (.newarray .int, 2) := by decide +kernel
theorem dX1_init_26 : decode cX1_init 26 = .ok (.putfield 18, 3) := by decide +kernel
theorem dX1_init_29 : decode cX1_init 29 = .ok (.aload_n 0, 1) := by decide +kernel
theorem dX1_init_30 : decode cX1_init 30 = .ok (.bipush 32, 2) := by decide +kernel
theorem dX1_init_32 : decode cX1_init 32 = .ok (.newarray .int, 2) := by decide +kernel
theorem dX1_init_34 : decode cX1_init 34 = .ok (.putfield 21, 3) := by decide +kernel
theorem dX1_init_37 : decode cX1_init 37 = .ok (.aload_n 0, 1) := by decide +kernel
theorem dX1_init_38 : decode cX1_init 38 = .ok (.iconst 0, 1) := by decide +kernel
theorem dX1_init_39 : decode cX1_init 39 = .ok (.putfield 24, 3) := by decide +kernel
theorem dX1_init_42 : decode cX1_init 42 = .ok (.aload_n 0, 1) := by decide +kernel
theorem dX1_init_43 : decode cX1_init 43 = .ok (.iconst 0, 1) := by decide +kernel
theorem dX1_init_44 : decode cX1_init 44 = .ok (.putfield 28, 3) := by decide +kernel
theorem dX1_init_47 : decode cX1_init 47 = .ok (.aload_n 0, 1) := by decide +kernel
theorem dX1_init_48 : decode cX1_init 48 = .ok (.iconst 0, 1) := by decide +kernel
theorem dX1_init_49 : decode cX1_init 49 = .ok (.putfield 31, 3) := by decide +kernel
theorem dX1_init_52 : decode cX1_init 52 = .ok (.return_, 1) := by decide +kernel
theorem dX6_init_0 : decode cX6_init 0 = .ok (.aload_n 0, 1) := by decide +kernel
theorem dX6_init_1 : decode cX6_init 1 = .ok (.invokespecial 3, 3) := by decide +kernel
theorem dX6_init_4 : decode cX6_init 4 = .ok (.aload_n 0, 1) := by decide +kernel
theorem dX6_init_5 : decode cX6_init 5 = .ok (.iconst 0, 1) := by decide +kernel
theorem dX6_init_6 : decode cX6_init 6 = .ok (.putfield 9, 3) := by decide +kernel
theorem dX6_init_9 : decode cX6_init 9 = .ok (.aload_n 0, 1) := by decide +kernel
theorem dX6_init_10 : decode cX6_init 10 = .ok (.bipush 20, 2) := by decide +kernel
theorem dX6_init_12 : decode cX6_init 12 = .ok (.newarray .int, 2) := by decide +kernel
theorem dX6_init_14 : decode cX6_init 14 = .ok (.putfield 15, 3) := by decide +kernel
theorem dX6_init_17 : decode cX6_init 17 = .ok (.aload_n 0, 1) := by decide +kernel
theorem dX6_init_18 : decode cX6_init 18 = .ok (.bipush 20, 2) := by decide +kernel
theorem dX6_init_20 : decode cX6_init 20 = .ok (.newarray .int, 2) := by decide +kernel
theorem dX6_init_22 : decode cX6_init 22 = .ok (.putfield 19, 3) := by decide +kernel
theorem dX6_init_25 : decode cX6_init 25 = .ok (.aload_n 0, 1) := by decide +kernel
theorem dX6_init_26 : decode cX6_init 26 = .ok (.bipush 6, 2) := by decide +kernel
theorem dX6_init_28 : decode cX6_init 28 = .ok (.newarray .int, 2) := by decide +kernel
theorem dX6_init_30 : decode cX6_init 30 = .ok (.putfield 22, 3) := by decide +kernel
theorem dX6_init_33 : decode cX6_init 33 = .ok (.aload_n 0, 1) := by decide +kernel
theorem dX6_init_34 : decode cX6_init 34 = .ok (.bipush 64, 2) := by decide +kernel
theorem dX6_init_36 : decode cX6_init 36 = .ok (.newarray .int, 2) := by decide +kernel
theorem dX6_init_38 : decode cX6_init 38 = .ok (.putfield 25, 3) := by decide +kernel
theorem dX6_init_41 : decode cX6_init 41 = .ok (.return_, 1) := by decide +kernel
theorem dX2_init_0 : decode cX2_init 0 = .ok (.aload_n 0, 1) := by decide +kernel
theorem dX2_init_1 : decode cX2_init 1 = .ok (.invokespecial 3, 3) := by decide +kernel
theorem dX2_init_4 : decode cX2_init 4 = .ok (.aload_n 0, 1) := by decide +kernel
theorem dX2_init_5 : decode cX2_init 5 = .ok (.sipush 384, 3) := by decide +kernel
theorem dX2_init_8 : decode cX2_init 8 = .ok (.newarray .int, 2) := by decide +kernel
theorem dX2_init_10 : decode cX2_init 10 = .ok (.putfield 9, 3) := by decide +kernel
theorem dX2_init_13 : decode cX2_init 13 = .ok (.aload_n 0, 1) := by decide +kernel
theorem dX2_init_14 : decode cX2_init 14 = .ok (.new 15, 3) := by decide +kernel
theorem dX2_init_17 : decode cX2_init 17 = .ok (.dup, 1) := by decide +kernel
theorem dX2_init_18 : decode cX2_init 18 = .ok (.invokespecial 17, 3) := by decide +kernel
theorem dX2_init_21 : decode cX2_init 21 = .ok (.putfield 18, 3) := by decide +kernel
theorem dX2_init_24 : decode cX2_init 24 = .ok (.return_, 1) := by decide +kernel
theorem dX3_init_0 : decode cX3_init 0 = .ok (.aload_n 0, 1) := by decide +kernel
theorem dX3_init_1 : decode cX3_init 1 = .ok (.invokespecial 3, 3) := by decide +kernel
theorem dX3_init_4 : decode cX3_init 4 = .ok (.aload_n 0, 1) := by decide +kernel
theorem dX3_init_5 : decode cX3_init 5 = .ok (.iconst 0, 1) := by decide +kernel
theorem dX3_init_6 : decode cX3_init 6 = .ok (.putfield 9, 3) := by decide +kernel
theorem dX3_init_9 : decode cX3_init 9 = .ok (.aload_n 0, 1) := by decide +kernel
theorem dX3_init_10 : decode cX3_init 10 = .ok (.bipush 30, 2) := by decide +kernel
theorem dX3_init_12 : decode cX3_init 12 = .ok (.anewarray 15, 3) := by decide +kernel
theorem dX3_init_15 : decode cX3_init 15 = .ok (.putfield 17, 3) := by decide +kernel
theorem dX3_init_18 : decode cX3_init 18 = .ok (.aload_n 0, 1) := by decide +kernel
theorem dX3_init_19 : decode cX3_init 19 = .ok (.iconst 0, 1) := by decide +kernel
theorem dX3_init_20 : decode cX3_init 20 = .ok (.putfield 21, 3) := by decide +kernel
theorem dX3_init_23 : decode cX3_init 23 = .ok (.iconst 0, 1) := by decide +kernel
theorem dX3_init_24 : decode cX3_init 24 = .ok (.istore_n 1, 1) := by decide +kernel
theorem dX3_init_25 : decode cX3_init 25 = .ok (.iload_n 1, 1) := by decide +kernel
theorem dX3_init_26 : decode cX3_init 26 = .ok (.bipush 30, 2) := by decide +kernel
theorem dX3_init_28 : decode cX3_init 28 = .ok (.if_icmp .ge 22, 3) := by decide +kernel
theorem dX3_init_31 : decode cX3_init 31 = .ok (.aload_n 0, 1) := by decide +kernel
theorem dX3_init_32 : decode cX3_init 32 = .ok (.getfield 17, 3) := by decide +kernel
theorem dX3_init_35 : decode cX3_init 35 = .ok (.iload_n 1, 1) := by decide +kernel
theorem dX3_init_36 : decode cX3_init 36 = .ok (.new 15, 3) := by decide +kernel
theorem dX3_init_39 : decode cX3_init 39 = .ok (.dup, 1) := by decide +kernel
theorem dX3_init_40 : decode cX3_init 40 = .ok (.invokespecial 24, 3) := by decide +kernel
theorem dX3_init_43 : decode cX3_init 43 = .ok (.aastore, 1) := by decide +kernel
theorem dX3_init_44 : decode cX3_init 44 = .ok (.iinc 1 1, 3) := by decide +kernel
theorem dX3_init_47 : decode cX3_init 47 = .ok (.goto (-22), 3) := by decide +kernel
theorem dX3_init_50 : decode cX3_init 50 = .ok (.return_, 1) := by decide +kernel
theorem dX0_init_0 : decode cX0_init 0 = .ok (.aload_n 0, 1) := by decide +kernel
theorem dX0_init_1 : decode cX0_init 1 = .ok (.invokespecial 3, 3) := by decide +kernel
theorem dX0_init_4 : decode cX0_init 4 = .ok (.aload_n 0, 1) := by decide +kernel
theorem dX0_init_5 : decode cX0_init 5 = .ok (.iconst 0, 1) := by decide +kernel
theorem dX0_init_6 : decode cX0_init 6 = .ok (.putfield 9, 3) := by decide +kernel
theorem dX0_init_9 : decode cX0_init 9 = .ok (.aload_n 0, 1) := by decide +kernel
theorem dX0_init_10 : decode cX0_init 10 = .ok (.iconst 0, 1) := by decide +kernel
theorem dX0_init_11 : decode cX0_init 11 = .ok (.putfield 15, 3) := by decide +kernel
theorem dX0_init_14 : decode cX0_init 14 = .ok (.aload_n 0, 1) := by decide +kernel
theorem dX0_init_15 : decode cX0_init 15 = .ok (.iconst 0, 1) := by decide +kernel
theorem dX0_init_16 : decode cX0_init 16 = .ok (.putfield 18, 3) := by decide +kernel
theorem dX0_init_19 : decode cX0_init 19 = .ok (.aload_n 0, 1) := by decide +kernel
theorem dX0_init_20 : decode cX0_init 20 = .ok (.iconst 0, 1) := by decide +kernel
theorem dX0_init_21 : decode cX0_init 21 = .ok (.putfield 21, 3) := by decide +kernel
theorem dX0_init_24 : decode cX0_init 24 = .ok (.aload_n 0, 1) := by decide +kernel
theorem dX0_init_25 : decode cX0_init 25 = .ok (.iconst 0, 1) := by decide +kernel
theorem dX0_init_26 : decode cX0_init 26 = .ok (.putfield 24, 3) := by decide +kernel
theorem dX0_init_29 : decode cX0_init 29 = .ok (.aload_n 0, 1) := by decide +kernel
theorem dX0_init_30 : decode cX0_init 30 = .ok (.bipush 40, 2) := by decide +kernel
theorem dX0_init_32 : decode cX0_init 32 = .ok (.newarray .int, 2) := by decide +kernel
theorem dX0_init_34 : decode cX0_init 34 = .ok (.putfield 27, 3) := by decide +kernel
theorem dX0_init_37 : decode cX0_init 37 = .ok (.aload_n 0, 1) := by decide +kernel
theorem dX0_init_38 : decode cX0_init 38 = .ok (.bipush 40, 2) := by decide +kernel
theorem dX0_init_40 : decode cX0_init 40 = .ok (.newarray .int, 2) := by decide +kernel
theorem dX0_init_42 : decode cX0_init 42 = .ok (.putfield 31, 3) := by decide +kernel
theorem dX0_init_45 : decode cX0_init 45 = .ok (.aload_n 0, 1) := by decide +kernel
theorem dX0_init_46 : decode cX0_init 46 = .ok (.bipush 6, 2) := by decide +kernel
theorem dX0_init_48 : decode cX0_init 48 = .ok (.newarray .long, 2) := by decide +kernel
theorem dX0_init_50 : decode cX0_init 50 = .ok (.putfield 34, 3) := by decide +kernel
theorem dX0_init_53 : decode cX0_init 53 = .ok (.aload_n 0, 1) := by decide +kernel
theorem dX0_init_54 : decode cX0_init 54 = .ok (.bipush 6, 2) := by decide +kernel
theorem dX0_init_56 : decode cX0_init 56 = .ok (.newarray .int, 2) := by decide +kernel
theorem dX0_init_58 : decode cX0_init 58 = .ok (.putfield 38, 3) := by decide +kernel
theorem dX0_init_61 : decode cX0_init 61 = .ok (.aload_n 0, 1) := by decide +kernel
theorem dX0_init_62 : decode cX0_init 62 = .ok (.bipush 6, 2) := by decide +kernel
theorem dX0_init_64 : decode cX0_init 64 = .ok (.newarray .int, 2) := by decide +kernel
theorem dX0_init_66 : decode cX0_init 66 = .ok (.putfield 41, 3) := by decide +kernel
theorem dX0_init_69 : decode cX0_init 69 = .ok (.aload_n 0, 1) := by decide +kernel
theorem dX0_init_70 : decode cX0_init 70 = .ok (.bipush 6, 2) := by decide +kernel
theorem dX0_init_72 : decode cX0_init 72 = .ok (.newarray .int, 2) := by decide +kernel
theorem dX0_init_74 : decode cX0_init 74 = .ok (.putfield 44, 3) := by decide +kernel
theorem dX0_init_77 : decode cX0_init 77 = .ok (.aload_n 0, 1) := by decide +kernel
theorem dX0_init_78 : decode cX0_init 78 = .ok (.bipush 6, 2) := by decide +kernel
theorem dX0_init_80 : decode cX0_init 80 = .ok (.newarray .int, 2) := by decide +kernel
theorem dX0_init_82 : decode cX0_init 82 = .ok (.putfield 47, 3) := by decide +kernel
theorem dX0_init_85 : decode cX0_init 85 = .ok (.aload_n 0, 1) := by decide +kernel
theorem dX0_init_86 : decode cX0_init 86 = .ok (.new 50, 3) := by decide +kernel
theorem dX0_init_89 : decode cX0_init 89 = .ok (.dup, 1) := by decide +kernel
theorem dX0_init_90 : decode cX0_init 90 = .ok (.invokespecial 52, 3) := by decide +kernel
theorem dX0_init_93 : decode cX0_init 93 = .ok (.putfield 53, 3) := by decide +kernel
theorem dX0_init_96 : decode cX0_init 96 = .ok (.aload_n 0, 1) := by decide +kernel
theorem dX0_init_97 : decode cX0_init 97 = .ok (.new 50, 3) := by decide +kernel
theorem dX0_init_100 : decode cX0_init 100 = .ok (.dup, 1) := by decide +kernel
theorem dX0_init_101 : decode cX0_init 101 = .ok (.invokespecial 52, 3) := by decide +kernel
theorem dX0_init_104 : decode cX0_init 104 = .ok (.putfield 57, 3) := by decide +kernel
theorem dX0_init_107 : decode cX0_init 107 = .ok (.aload_n 0, 1) := by decide +kernel
theorem dX0_init_108 : decode cX0_init 108 = .ok (.new 50, 3) := by decide +kernel
theorem dX0_init_111 : decode cX0_init 111 = .ok (.dup, 1) := by decide +kernel
theorem dX0_init_112 : decode cX0_init 112 = .ok (.invokespecial 52, 3) := by decide +kernel
theorem dX0_init_115 : decode cX0_init 115 = .ok (.putfield 60, 3) := by decide +kernel
theorem dX0_init_118 : decode cX0_init 118 = .ok (.aload_n 0, 1) := by decide +kernel
theorem dX0_init_119 : decode cX0_init 119 = .ok (.invokevirtual 63, 3) := by decide +kernel
theorem dX0_init_122 : decode cX0_init 122 = .ok (.return_, 1) := by decide +kernel
theorem dX4_init_0 : decode cX4_init 0 = .ok (.aload_n 0, 1) := by decide +kernel
theorem dX4_init_1 : decode cX4_init 1 = .ok (.invokespecial 3, 3) := by decide +kernel
theorem dX4_init_4 : decode cX4_init 4 = .ok (.aload_n 0, 1) := by decide +kernel
theorem dX4_init_5 : decode cX4_init 5 = .ok (.sipush 2000, 3) := by decide +kernel
theorem dX4_init_8 : decode cX4_init 8 = .ok (.newarray .byte, 2) := by decide +kernel
theorem dX4_init_10 : decode cX4_init 10 = .ok (.putfield 9, 3) := by decide +kernel
theorem dX4_init_13 : decode cX4_init 13 = .ok (.aload_n 0, 1) := by decide +kernel
theorem dX4_init_14 : decode cX4_init 14 = .ok (.iconst 0, 1) := by decide +kernel
theorem dX4_init_15 : decode cX4_init 15 = .ok (.putfield 15, 3) := by decide +kernel
theorem dX4_init_18 : decode cX4_init 18 = .ok (.aload_n 0, 1) := by decide +kernel
theorem dX4_init_19 : decode cX4_init 19 = .ok (.new 19, 3) := by decide +kernel
theorem dX4_init_22 : decode cX4_init 22 = .ok (.dup, 1) := by decide +kernel
theorem dX4_init_23 : decode cX4_init 23 = .ok (.invokespecial 21, 3) := by decide +kernel
theorem dX4_init_26 : decode cX4_init 26 = .ok (.putfield 22, 3) := by decide +kernel
theorem dX4_init_29 : decode cX4_init 29 = .ok (.aload_n 0, 1) := by decide +kernel
theorem dX4_init_30 : decode cX4_init 30 = .ok (.iconst (-1), 1) := by decide +kernel
theorem dX4_init_31 : decode cX4_init 31 = .ok (.putfield 26, 3) := by decide +kernel
theorem dX4_init_34 : decode cX4_init 34 = .ok (.aload_n 0, 1) := by decide +kernel
theorem dX4_init_35 : decode cX4_init 35 = .ok (.iconst 0, 1) := by decide +kernel
theorem dX4_init_36 : decode cX4_init 36 = .ok (.putfield 29, 3) := by decide +kernel
theorem dX4_init_39 : decode cX4_init 39 = .ok (.aload_n 0, 1) := by decide +kernel
theorem dX4_init_40 : decode cX4_init 40 = .ok (.iconst 0, 1) := by decide +kernel
theorem dX4_init_41 : decode cX4_init 41 = .ok (.putfield 32, 3) := by decide +kernel
theorem dX4_init_44 : decode cX4_init 44 = .ok (.aload_n 0, 1) := by decide +kernel
theorem dX4_init_45 : decode cX4_init 45 = .ok (.iconst (-1), 1) := by decide +kernel
theorem dX4_init_46 : decode cX4_init 46 = .ok (.putfield 35, 3) := by decide +kernel
theorem dX4_init_49 : decode cX4_init 49 = .ok (.aload_n 0, 1) := by decide +kernel
theorem dX4_init_50 : decode cX4_init 50 = .ok (.sipush 401, 3) := by decide +kernel
theorem dX4_init_53 : decode cX4_init 53 = .ok (.newarray .int, 2) := by decide +kernel
theorem dX4_init_55 : decode cX4_init 55 = .ok (.putfield 38, 3) := by decide +kernel
theorem dX4_init_58 : decode cX4_init 58 = .ok (.aload_n 0, 1) := by decide +kernel
theorem dX4_init_59 : decode cX4_init 59 = .ok (.sipush 401, 3) := by decide +kernel
theorem dX4_init_62 : decode cX4_init 62 = .ok (.newarray .int, 2) := by decide +kernel
theorem dX4_init_64 : decode cX4_init 64 = .ok (.putfield 42, 3) := by decide +kernel
theorem dX4_init_67 : decode cX4_init 67 = .ok (.aload_n 0, 1) := by decide +kernel
theorem dX4_init_68 : decode cX4_init 68 = .ok (.sipush 401, 3) := by decide +kernel
theorem dX4_init_71 : decode cX4_init 71 = .ok (.newarray .int, 2) := by decide +kernel
theorem dX4_init_73 : decode cX4_init 73 = .ok (.putfield 45, 3) := by decide +kernel
theorem dX4_init_76 : decode cX4_init 76 = .ok (.aload_n 0, 1) := by decide +kernel
theorem dX4_init_77 : decode cX4_init 77 = .ok (.iconst 0, 1) := by decide +kernel
theorem dX4_init_78 : decode cX4_init 78 = .ok (.putfield 48, 3) := by decide +kernel
theorem dX4_init_81 : decode cX4_init 81 = .ok (.return_, 1) := by decide +kernel
theorem dX7_init_0 : decode cX7_init 0 = .ok (.aload_n 0, 1) := by decide +kernel
theorem dX7_init_1 : decode cX7_init 1 = .ok (.invokespecial 3, 3) := by decide +kernel
theorem dX7_init_4 : decode cX7_init 4 = .ok (.aload_n 0, 1) := by decide +kernel
theorem dX7_init_5 : decode cX7_init 5 = .ok (.new 9, 3) := by decide +kernel
theorem dX7_init_8 : decode cX7_init 8 = .ok (.dup, 1) := by decide +kernel
theorem dX7_init_9 : decode cX7_init 9 = .ok (.invokespecial 11, 3) := by decide +kernel
theorem dX7_init_12 : decode cX7_init 12 = .ok (.putfield 12, 3) := by decide +kernel
theorem dX7_init_15 : decode cX7_init 15 = .ok (.aload_n 0, 1) := by decide +kernel
theorem dX7_init_16 : decode cX7_init 16 = .ok (.new 16, 3) := by decide +kernel
theorem dX7_init_19 : decode cX7_init 19 = .ok (.dup, 1) := by decide +kernel
theorem dX7_init_20 : decode cX7_init 20 = .ok (.invokespecial 18, 3) := by decide +kernel
theorem dX7_init_23 : decode cX7_init 23 = .ok (.putfield 19, 3) := by decide +kernel
theorem dX7_init_26 : decode cX7_init 26 = .ok (.aload_n 0, 1) := by decide +kernel
theorem dX7_init_27 : decode cX7_init 27 = .ok (.new 23, 3) := by decide +kernel
theorem dX7_init_30 : decode cX7_init 30 = .ok (.dup, 1) := by decide +kernel
theorem dX7_init_31 : decode cX7_init 31 = .ok (.invokespecial 25, 3) := by decide +kernel
theorem dX7_init_34 : decode cX7_init 34 = .ok (.putfield 26, 3) := by decide +kernel
theorem dX7_init_37 : decode cX7_init 37 = .ok (.aload_n 0, 1) := by decide +kernel
theorem dX7_init_38 : decode cX7_init 38 = .ok (.new 23, 3) := by decide +kernel
theorem dX7_init_41 : decode cX7_init 41 = .ok (.dup, 1) := by decide +kernel
theorem dX7_init_42 : decode cX7_init 42 = .ok (.invokespecial 25, 3) := by decide +kernel
theorem dX7_init_45 : decode cX7_init 45 = .ok (.putfield 30, 3) := by decide +kernel
theorem dX7_init_48 : decode cX7_init 48 = .ok (.aload_n 0, 1) := by decide +kernel
theorem dX7_init_49 : decode cX7_init 49 = .ok (.new 33, 3) := by decide +kernel
theorem dX7_init_52 : decode cX7_init 52 = .ok (.dup, 1) := by decide +kernel
theorem dX7_init_53 : decode cX7_init 53 = .ok (.invokespecial 35, 3) := by decide +kernel
theorem dX7_init_56 : decode cX7_init 56 = .ok (.putfield 36, 3) := by decide +kernel
theorem dX7_init_59 : decode cX7_init 59 = .ok (.aload_n 0, 1) := by decide +kernel
theorem dX7_init_60 : decode cX7_init 60 = .ok (.iconst 3, 1) := by decide +kernel
theorem dX7_init_61 : decode cX7_init 61 = .ok (.anewarray 23, 3) := by decide +kernel
theorem dX7_init_64 : decode cX7_init 64 = .ok (.putfield 40, 3) := by decide +kernel
theorem dX7_init_67 : decode cX7_init 67 = .ok (.aload_n 0, 1) := by decide +kernel
theorem dX7_init_68 : decode cX7_init 68 = .ok (.iconst 0, 1) := by decide +kernel
theorem dX7_init_69 : decode cX7_init 69 = .ok (.putfield 44, 3) := by decide +kernel
theorem dX7_init_72 : decode cX7_init 72 = .ok (.aload_n 0, 1) := by decide +kernel
theorem dX7_init_73 : decode cX7_init 73 = .ok (.new 48, 3) := by decide +kernel
theorem dX7_init_76 : decode cX7_init 76 = .ok (.dup, 1) := by decide +kernel
theorem dX7_init_77 : decode cX7_init 77 = .ok (.invokespecial 50, 3) := by decide +kernel
theorem dX7_init_80 : decode cX7_init 80 = .ok (.putfield 51, 3) := by decide +kernel
theorem dX7_init_83 : decode cX7_init 83 = .ok (.aload_n 0, 1) := by decide +kernel
theorem dX7_init_84 : decode cX7_init 84 = .ok (.new 55, 3) := by decide +kernel
theorem dX7_init_87 : decode cX7_init 87 = .ok (.dup, 1) := by decide +kernel
theorem dX7_init_88 : decode cX7_init 88 = .ok (.invokespecial 57, 3) := by decide +kernel
theorem dX7_init_91 : decode cX7_init 91 = .ok (.putfield 58, 3) := by decide +kernel
theorem dX7_init_94 : decode cX7_init 94 = .ok (.aload_n 0, 1) := by decide +kernel
theorem dX7_init_95 : decode cX7_init 95 = .ok (.bipush 6, 2) := by decide +kernel
theorem dX7_init_97 : decode cX7_init 97 = .ok (.newarray .long, 2) := by decide +kernel
theorem dX7_init_99 : decode cX7_init 99 = .ok (.putfield 62, 3) := by decide +kernel
theorem dX7_init_102 : decode cX7_init 102 = .ok (.iconst 0, 1) := by decide +kernel
theorem dX7_init_103 : decode cX7_init 103 = .ok (.istore_n 1, 1) := by decide +kernel
theorem dX7_init_104 : decode cX7_init 104 = .ok (.iload_n 1, 1) := by decide +kernel
theorem dX7_init_105 : decode cX7_init 105 = .ok (.iconst 3, 1) := by decide +kernel
theorem dX7_init_106 : decode cX7_init 106 = .ok (.if_icmp .ge 22, 3) := by decide +kernel
theorem dX7_init_109 : decode cX7_init 109 = .ok (.aload_n 0, 1) := by decide +kernel
theorem dX7_init_110 : decode cX7_init 110 = .ok (.getfield 40, 3) := by decide +kernel
theorem dX7_init_113 : decode cX7_init 113 = .ok (.iload_n 1, 1) := by decide +kernel
theorem dX7_init_114 : decode cX7_init 114 = .ok (.new 23, 3) := by decide +kernel
theorem dX7_init_117 : decode cX7_init 117 = .ok (.dup, 1) := by decide +kernel
theorem dX7_init_118 : decode cX7_init 118 = .ok (.invokespecial 25, 3) := by decide +kernel
theorem dX7_init_121 : decode cX7_init 121 = .ok (.aastore, 1) := by decide +kernel
theorem dX7_init_122 : decode cX7_init 122 = .ok (.iinc 1 1, 3) := by decide +kernel
theorem dX7_init_125 : decode cX7_init 125 = .ok (.goto (-21), 3) := by decide +kernel
theorem dX7_init_128 : decode cX7_init 128 = .ok (.return_, 1) := by decide +kernel
theorem dX8_init_0 : decode cX8_init 0 = .ok (.aload_n 0, 1) := by decide +kernel
theorem dX8_init_1 : decode cX8_init 1 = .ok (.invokespecial 7, 3) := by decide +kernel
theorem dX8_init_4 : decode cX8_init 4 = .ok (.aload_n 0, 1) := by decide +kernel
theorem dX8_init_5 : decode cX8_init 5 = .ok (.sipush 2000, 3) := by decide +kernel
theorem dX8_init_8 : decode cX8_init 8 = .ok (.newarray .byte, 2) := by decide +kernel
theorem dX8_init_10 : decode cX8_init 10 = .ok (.putfield 13, 3) := by decide +kernel
theorem dX8_init_13 : decode cX8_init 13 = .ok (.aload_n 0, 1) := by decide +kernel
theorem dX8_init_14 : decode cX8_init 14 = .ok (.sipush 2000, 3) := by decide +kernel
theorem dX8_init_17 : decode cX8_init 17 = .ok (.newarray .byte, 2) := by decide +kernel
theorem dX8_init_19 : decode cX8_init 19 = .ok (.putfield 17, 3) := by decide +kernel
theorem dX8_init_22 : decode cX8_init 22 = .ok (.aload_n 0, 1) := by decide +kernel
theorem dX8_init_23 : decode cX8_init 23 = .ok (.sipush 403, 3) := by decide +kernel
theorem dX8_init_26 : decode cX8_init 26 = .ok (.newarray .int, 2) := by decide +kernel
theorem dX8_init_28 : decode cX8_init 28 = .ok (.putfield 20, 3) := by decide +kernel
theorem dX8_init_31 : decode cX8_init 31 = .ok (.aload_n 0, 1) := by decide +kernel
theorem dX8_init_32 : decode cX8_init 32 = .ok (.sipush 403, 3) := by decide +kernel
theorem dX8_init_35 : decode cX8_init 35 = .ok (.newarray .int, 2) := by decide +kernel
theorem dX8_init_37 : decode cX8_init 37 = .ok (.putfield 24, 3) := by decide +kernel
theorem dX8_init_40 : decode cX8_init 40 = .ok (.aload_n 0, 1) := by decide +kernel
theorem dX8_init_41 : decode cX8_init 41 = .ok (.sipush 403, 3) := by decide +kernel
theorem dX8_init_44 : decode cX8_init 44 = .ok (.newarray .int, 2) := by decide +kernel
theorem dX8_init_46 : decode cX8_init 46 = .ok (.putfield 27, 3) := by decide +kernel
theorem dX8_init_49 : decode cX8_init 49 = .ok (.aload_n 0, 1) := by decide +kernel
theorem dX8_init_50 : decode cX8_init 50 = .ok (.sipush 403, 3) := by decide +kernel
theorem dX8_init_53 : decode cX8_init 53 = .ok (.newarray .long, 2) := by decide +kernel
theorem dX8_init_55 : decode cX8_init 55 = .ok (.putfield 30, 3) := by decide +kernel
theorem dX8_init_58 : decode cX8_init 58 = .ok (.aload_n 0, 1) := by decide +kernel
theorem dX8_init_59 : decode cX8_init 59 = .ok (.bipush 19, 2) := by decide +kernel
theorem dX8_init_61 : decode cX8_init 61 = .ok (.newarray .long, 2) := by decide +kernel
theorem dX8_init_63 : decode cX8_init 63 = .ok (.putfield 34, 3) := by decide +kernel
theorem dX8_init_66 : decode cX8_init 66 = .ok (.aload_n 0, 1) := by decide +kernel
theorem dX8_init_67 : decode cX8_init 67 = .ok (.iconst (-1), 1) := by decide +kernel
theorem dX8_init_68 : decode cX8_init 68 = .ok (.putfield 37, 3) := by decide +kernel
theorem dX8_init_71 : decode cX8_init 71 = .ok (.aload_n 0, 1) := by decide +kernel
theorem dX8_init_72 : decode cX8_init 72 = .ok (.bipush 6, 2) := by decide +kernel
theorem dX8_init_74 : decode cX8_init 74 = .ok (.newarray .long, 2) := by decide +kernel
theorem dX8_init_76 : decode cX8_init 76 = .ok (.putfield 40, 3) := by decide +kernel
theorem dX8_init_79 : decode cX8_init 79 = .ok (.aload_n 0, 1) := by decide +kernel
theorem dX8_init_80 : decode cX8_init 80 = .ok (.iconst 2, 1) := by decide +kernel
theorem dX8_init_81 : decode cX8_init 81 = .ok (.newarray .int, 2) := by decide +kernel
theorem dX8_init_83 : decode cX8_init 83 = .ok (.putfield 43, 3) := by decide +kernel
theorem dX8_init_86 : decode cX8_init 86 = .ok (.aload_n 0, 1) := by decide +kernel
theorem dX8_init_87 : decode cX8_init 87 = .ok (.iconst 2, 1) := by decide +kernel
theorem dX8_init_88 : decode cX8_init 88 = .ok (.newarray .int, 2) := by decide +kernel
theorem dX8_init_90 : decode cX8_init 90 = .ok (.putfield 46, 3) := by decide +kernel
theorem dX8_init_93 : decode cX8_init 93 = .ok (.aload_n 0, 1) := by decide +kernel
theorem dX8_init_94 : decode cX8_init 94 = .ok (.bipush 80, 2) := by decide +kernel
theorem dX8_init_96 : decode cX8_init 96 = .ok (.newarray .int, 2) := by decide +kernel
theorem dX8_init_98 : decode cX8_init 98 = .ok (.putfield 49, 3) := by decide +kernel
theorem dX8_init_101 : decode cX8_init 101 = .ok (.aload_n 0, 1) := by decide +kernel
theorem dX8_init_102 : decode cX8_init 102 = .ok (.iconst 2, 1) := by decide +kernel
theorem dX8_init_103 : decode cX8_init 103 = .ok (.newarray .int, 2) := by decide +kernel
theorem dX8_init_105 : decode cX8_init 105 = .ok (.putfield 52, 3) := by decide +kernel
theorem dX8_init_108 : decode cX8_init 108 = .ok (.aload_n 0, 1) := by decide +kernel
theorem dX8_init_109 : decode cX8_init 109 = .ok (.bipush 12, 2) := by decide +kernel
theorem dX8_init_111 : decode cX8_init 111 = .ok (.newarray .int, 2) := by decide +kernel
theorem dX8_init_113 : decode cX8_init 113 = .ok (.putfield 55, 3) := by decide +kernel
theorem dX8_init_116 : decode cX8_init 116 = .ok (.aload_n 0, 1) := by decide +kernel
theorem dX8_init_117 : decode cX8_init 117 = .ok (.bipush 12, 2) := by decide +kernel
theorem dX8_init_119 : decode cX8_init 119 = .ok (.newarray .int, 2) := by decide +kernel
theorem dX8_init_121 : decode cX8_init 121 = .ok (.putfield 58, 3) := by decide +kernel
theorem dX8_init_124 : decode cX8_init 124 = .ok (.aload_n 0, 1) := by decide +kernel
theorem dX8_init_125 : decode cX8_init 125 = .ok (.bipush 12, 2) := by decide +kernel
theorem dX8_init_127 : decode cX8_init 127 = .ok (.newarray .int, 2) := by decide +kernel
theorem dX8_init_129 : decode cX8_init 129 = .ok (.putfield 61, 3) := by decide +kernel
theorem dX8_init_132 : decode cX8_init 132 = .ok (.aload_n 0, 1) := by decide +kernel
theorem dX8_init_133 : decode cX8_init 133 = .ok (.bipush 12, 2) := by decide +kernel
theorem dX8_init_135 : decode cX8_init 135 = .ok (.newarray .int, 2) := by decide +kernel
theorem dX8_init_137 : decode cX8_init 137 = .ok (.putfield 64, 3) := by decide +kernel
theorem dX8_init_140 : decode cX8_init 140 = .ok (.aload_n 0, 1) := by decide +kernel
theorem dX8_init_141 : decode cX8_init 141 = .ok (.iconst 2, 1) := by decide +kernel
theorem dX8_init_142 : decode cX8_init 142 = .ok (.newarray .int, 2) := by decide +kernel
theorem dX8_init_144 : decode cX8_init 144 = .ok (.putfield 67, 3) := by decide +kernel
theorem dX8_init_147 : decode cX8_init 147 = .ok (.aload_n 0, 1) := by decide +kernel
theorem dX8_init_148 : decode cX8_init 148 = .ok (.iconst 2, 1) := by decide +kernel
theorem dX8_init_149 : decode cX8_init 149 = .ok (.newarray .int, 2) := by decide +kernel
theorem dX8_init_151 : decode cX8_init 151 = .ok (.putfield 70, 3) := by decide +kernel
theorem dX8_init_154 : decode cX8_init 154 = .ok (.aload_n 0, 1) := by decide +kernel
theorem dX8_init_155 : decode cX8_init 155 = .ok (.bipush 6, 2) := by decide +kernel
theorem dX8_init_157 : decode cX8_init 157 = .ok (.newarray .int, 2) := by decide +kernel
theorem dX8_init_159 : decode cX8_init 159 = .ok (.putfield 73, 3) := by decide +kernel
theorem dX8_init_162 : decode cX8_init 162 = .ok (.aload_n 0, 1) := by decide +kernel
theorem dX8_init_163 : decode cX8_init 163 = .ok (.bipush 6, 2) := by decide +kernel
theorem dX8_init_165 : decode cX8_init 165 = .ok (.newarray .int, 2) := by decide +kernel
theorem dX8_init_167 : decode cX8_init 167 = .ok (.putfield 76, 3) := by decide +kernel
theorem dX8_init_170 : decode cX8_init 170 = .ok (.aload_n 0, 1) := by decide +kernel
theorem dX8_init_171 : decode cX8_init 171 = .ok (.sipush 260, 3) := by decide +kernel
theorem dX8_init_174 : decode cX8_init 174 = .ok (.newarray .boolean, 2) := by decide +kernel
theorem dX8_init_176 : decode cX8_init 176 = .ok (.putfield 79, 3) := by decide +kernel
theorem dX8_init_179 : decode cX8_init 179 = .ok (.aload_n 0, 1) := by decide +kernel
theorem dX8_init_180 : decode cX8_init 180 = .ok (.sipush 260, 3) := by decide +kernel
theorem dX8_init_183 : decode cX8_init 183 = .ok (.newarray .int, 2) := by decide +kernel
theorem dX8_init_185 : decode cX8_init 185 = .ok (.putfield 83, 3) := by decide +kernel
theorem dX8_init_188 : decode cX8_init 188 = .ok (.aload_n 0, 1) := by decide +kernel
theorem dX8_init_189 : decode cX8_init 189 = .ok (.sipush 260, 3) := by decide +kernel
theorem dX8_init_192 : decode cX8_init 192 = .ok (.newarray .int, 2) := by decide +kernel
theorem dX8_init_194 : decode cX8_init 194 = .ok (.putfield 86, 3) := by decide +kernel
theorem dX8_init_197 : decode cX8_init 197 = .ok (.aload_n 0, 1) := by decide +kernel
theorem dX8_init_198 : decode cX8_init 198 = .ok (.sipush 260, 3) := by decide +kernel
theorem dX8_init_201 : decode cX8_init 201 = .ok (.newarray .int, 2) := by decide +kernel
theorem dX8_init_203 : decode cX8_init 203 = .ok (.putfield 89, 3) := by decide +kernel
theorem dX8_init_206 : decode cX8_init 206 = .ok (.aload_n 0, 1) := by decide +kernel
theorem dX8_init_207 : decode cX8_init 207 = .ok (.sipush 260, 3) := by decide +kernel
theorem dX8_init_210 : decode cX8_init 210 = .ok (.newarray .int, 2) := by decide +kernel
theorem dX8_init_212 : decode cX8_init 212 = .ok (.putfield 92, 3) := by decide +kernel
theorem dX8_init_215 : decode cX8_init 215 = .ok (.aload_n 0, 1) := by decide +kernel
theorem dX8_init_216 : decode cX8_init 216 = .ok (.sipush 840, 3) := by decide +kernel
theorem dX8_init_219 : decode cX8_init 219 = .ok (.newarray .int, 2) := by decide +kernel
theorem dX8_init_221 : decode cX8_init 221 = .ok (.putfield 95, 3) := by decide +kernel
theorem dX8_init_224 : decode cX8_init 224 = .ok (.aload_n 0, 1) := by decide +kernel
theorem dX8_init_225 : decode cX8_init 225 = .ok (.sipush 840, 3) := by decide +kernel
theorem dX8_init_228 : decode cX8_init 228 = .ok (.newarray .int, 2) := by decide +kernel
theorem dX8_init_230 : decode cX8_init 230 = .ok (.putfield 98, 3) := by decide +kernel
theorem dX8_init_233 : decode cX8_init 233 = .ok (.aload_n 0, 1) := by decide +kernel
theorem dX8_init_234 : decode cX8_init 234 = .ok (.bipush 64, 2) := by decide +kernel
theorem dX8_init_236 : decode cX8_init 236 = .ok (.newarray .int, 2) := by decide +kernel
theorem dX8_init_238 : decode cX8_init 238 = .ok (.putfield 101, 3) := by decide +kernel
theorem dX8_init_241 : decode cX8_init 241 = .ok (.aload_n 0, 1) := by decide +kernel
theorem dX8_init_242 : decode cX8_init 242 = .ok (.bipush 9, 2) := by decide +kernel
theorem dX8_init_244 : decode cX8_init 244 = .ok (.newarray .int, 2) := by decide +kernel
theorem dX8_init_246 : decode cX8_init 246 = .ok (.putfield 104, 3) := by decide +kernel
theorem dX8_init_249 : decode cX8_init 249 = .ok (.aload_n 0, 1) := by decide +kernel
theorem dX8_init_250 : decode cX8_init 250 = .ok (.sipush 400, 3) := by decide +kernel
theorem dX8_init_253 : decode cX8_init 253 = .ok (.newarray .int, 2) := by decide +kernel
theorem dX8_init_255 : decode cX8_init 255 = .ok (.putfield 107, 3) := by decide +kernel
theorem dX8_init_258 : decode cX8_init 258 = .ok (.aload_n 0, 1) := by decide +kernel
theorem dX8_init_259 : decode cX8_init 259 = .ok (.sipush 512, 3) := by decide +kernel
theorem dX8_init_262 : decode cX8_init 262 = .ok (.newarray .int, 2) := by decide +kernel
theorem dX8_init_264 : decode cX8_init 264 = .ok (.putfield 110, 3) := by decide +kernel
theorem dX8_init_267 : decode cX8_init 267 = .ok (.aload_n 0, 1) := by decide +kernel
theorem dX8_init_268 : decode cX8_init 268 = .ok (.sipush 512, 3) := by decide +kernel
theorem dX8_init_271 : decode cX8_init 271 = .ok (.newarray .int, 2) := by decide +kernel
theorem dX8_init_273 : decode cX8_init 273 = .ok (.putfield 113, 3) := by decide +kernel
theorem dX8_init_276 : decode cX8_init 276 = .ok (.aload_n 0, 1) := by decide +kernel
theorem dX8_init_277 : decode cX8_init 277 = .ok (.bipush 6, 2) := by decide +kernel
theorem dX8_init_279 : decode cX8_init 279 = .ok (.newarray .int, 2) := by decide +kernel
theorem dX8_init_281 : decode cX8_init 281 = .ok (.putfield 116, 3) := by decide +kernel
theorem dX8_init_284 : decode cX8_init 284 = .ok (.aload_n 0, 1) := by decide +kernel
theorem dX8_init_285 : decode cX8_init 285 = .ok (.sipush 15360, 3) := by decide +kernel
theorem dX8_init_288 : decode cX8_init 288 = .ok (.newarray .int, 2) := by decide +kernel
theorem dX8_init_290 : decode cX8_init 290 = .ok (.putfield 119, 3) := by decide +kernel
theorem dX8_init_293 : decode cX8_init 293 = .ok (.aload_n 0, 1) := by decide +kernel
theorem dX8_init_294 : decode cX8_init 294 = .ok (.bipush 40, 2) := by decide +kernel
theorem dX8_init_296 : decode cX8_init 296 = .ok (.newarray .int, 2) := by decide +kernel
theorem dX8_init_298 : decode cX8_init 298 = .ok (.putfield 122, 3) := by decide +kernel
theorem dX8_init_301 : decode cX8_init 301 = .ok (.aload_n 0, 1) := by decide +kernel
theorem dX8_init_302 : decode cX8_init 302 = .ok (.bipush 40, 2) := by decide +kernel
theorem dX8_init_304 : decode cX8_init 304 = .ok (.newarray .boolean, 2) := by decide +kernel
theorem dX8_init_306 : decode cX8_init 306 = .ok (.putfield 125, 3) := by decide +kernel
theorem dX8_init_309 : decode cX8_init 309 = .ok (.aload_n 0, 1) := by decide +kernel
theorem dX8_init_310 : decode cX8_init 310 = .ok (.bipush 40, 2) := by decide +kernel
theorem dX8_init_312 : decode cX8_init 312 = .ok (.newarray .boolean, 2) := by decide +kernel
theorem dX8_init_314 : decode cX8_init 314 = .ok (.putfield 128, 3) := by decide +kernel
theorem dX8_init_317 : decode cX8_init 317 = .ok (.aload_n 0, 1) := by decide +kernel
theorem dX8_init_318 : decode cX8_init 318 = .ok (.sipush 384, 3) := by decide +kernel
theorem dX8_init_321 : decode cX8_init 321 = .ok (.newarray .int, 2) := by decide +kernel
theorem dX8_init_323 : decode cX8_init 323 = .ok (.putfield 131, 3) := by decide +kernel
theorem dX8_init_326 : decode cX8_init 326 = .ok (.aload_n 0, 1) := by decide +kernel
theorem dX8_init_327 : decode cX8_init 327 = .ok (.bipush 20, 2) := by decide +kernel
theorem dX8_init_329 : decode cX8_init 329 = .ok (.newarray .int, 2) := by decide +kernel
theorem dX8_init_331 : decode cX8_init 331 = .ok (.putfield 134, 3) := by decide +kernel
theorem dX8_init_334 : decode cX8_init 334 = .ok (.aload_n 0, 1) := by decide +kernel
theorem dX8_init_335 : decode cX8_init 335 = .ok (.bipush 20, 2) := by decide +kernel
theorem dX8_init_337 : decode cX8_init 337 = .ok (.newarray .int, 2) := by decide +kernel
theorem dX8_init_339 : decode cX8_init 339 = .ok (.putfield 137, 3) := by decide +kernel
theorem dX8_init_342 : decode cX8_init 342 = .ok (.aload_n 0, 1) := by decide +kernel
theorem dX8_init_343 : decode cX8_init 343 = .ok (.bipush 6, 2) := by decide +kernel
theorem dX8_init_345 : decode cX8_init 345 = .ok (.newarray .int, 2) := by decide +kernel
theorem dX8_init_347 : decode cX8_init 347 = .ok (.putfield 140, 3) := by decide +kernel
theorem dX8_init_350 : decode cX8_init 350 = .ok (.aload_n 0, 1) := by decide +kernel
theorem dX8_init_351 : decode cX8_init 351 = .ok (.iconst 3, 1) := by decide +kernel
theorem dX8_init_352 : decode cX8_init 352 = .ok (.newarray .boolean, 2) := by decide +kernel
theorem dX8_init_354 : decode cX8_init 354 = .ok (.putfield 143, 3) := by decide +kernel
theorem dX8_init_357 : decode cX8_init 357 = .ok (.aload_n 0, 1) := by decide +kernel
theorem dX8_init_358 : decode cX8_init 358 = .ok (.sipush 1536, 3) := by decide +kernel
theorem dX8_init_361 : decode cX8_init 361 = .ok (.newarray .int, 2) := by decide +kernel
theorem dX8_init_363 : decode cX8_init 363 = .ok (.putfield 146, 3) := by decide +kernel
theorem dX8_init_366 : decode cX8_init 366 = .ok (.aload_n 0, 1) := by decide +kernel
theorem dX8_init_367 : decode cX8_init 367 = .ok (.iconst 0, 1) := by decide +kernel
theorem dX8_init_368 : decode cX8_init 368 = .ok (.invokevirtual 149, 3) := by decide +kernel
theorem dX8_init_371 : decode cX8_init 371 = .ok (.aload_n 0, 1) := by decide +kernel
theorem dX8_init_372 : decode cX8_init 372 = .ok (.getfield 34, 3) := by decide +kernel
theorem dX8_init_375 : decode cX8_init 375 = .ok (.iconst 0, 1) := by decide +kernel
theorem dX8_init_376 : decode cX8_init 376 = .ok (.bipush 114, 2) := by decide +kernel
theorem dX8_init_378 : decode cX8_init 378 = .ok (.bipush 111, 2) := by decide +kernel
theorem dX8_init_380 : decode cX8_init 380 = .ok (.bipush 119, 2) := by decide +kernel
theorem dX8_init_382 : decode cX8_init 382 = .ok (.iconst 0, 1) := by decide +kernel
theorem dX8_init_383 : decode cX8_init 383 = .ok (.iconst 0, 1) := by decide +kernel
theorem dX8_init_384 : decode cX8_init 384 = .ok (.iconst 0, 1) := by decide +kernel
theorem dX8_init_385 : decode cX8_init 385 = .ok (.iconst 0, 1) := by decide +kernel
theorem dX8_init_386 : decode cX8_init 386 = .ok (.invokestatic 153, 3) := by decide +kernel
theorem dX8_init_389 : decode cX8_init 389 = .ok (.lastore, 1) := by decide +kernel
theorem dX8_init_390 : decode cX8_init 390 = .ok (.aload_n 0, 1) := by decide +kernel
theorem dX8_init_391 : decode cX8_init 391 = .ok (.getfield 34, 3) := by decide +kernel
theorem dX8_init_394 : decode cX8_init 394 = .ok (.iconst 1, 1) := by decide +kernel
theorem dX8_init_395 : decode cX8_init 395 = .ok (.bipush 98, 2) := by decide +kernel
theorem dX8_init_397 : decode cX8_init 397 = .ok (.bipush 111, 2) := by decide +kernel
theorem dX8_init_399 : decode cX8_init 399 = .ok (.bipush 97, 2) := by decide +kernel
theorem dX8_init_401 : decode cX8_init 401 = .ok (.bipush 116, 2) := by decide +kernel
theorem dX8_init_403 : decode cX8_init 403 = .ok (.iconst 0, 1) := by decide +kernel
theorem dX8_init_404 : decode cX8_init 404 = .ok (.iconst 0, 1) := by decide +kernel
theorem dX8_init_405 : decode cX8_init 405 = .ok (.iconst 0, 1) := by decide +kernel
theorem dX8_init_406 : decode cX8_init 406 = .ok (.invokestatic 153, 3) := by decide +kernel
theorem dX8_init_409 : decode cX8_init 409 = .ok (.lastore, 1) := by decide +kernel
theorem dX8_init_410 : decode cX8_init 410 = .ok (.aload_n 0, 1) := by decide +kernel
theorem dX8_init_411 : decode cX8_init 411 = .ok (.getfield 34, 3) := by decide +kernel
theorem dX8_init_414 : decode cX8_init 414 = .ok (.iconst 2, 1) := by decide +kernel
theorem dX8_init_415 : decode cX8_init 415 = .ok (.bipush 119, 2) := by decide +kernel
theorem dX8_init_417 : decode cX8_init 417 = .ok (.bipush 105, 2) := by decide +kernel
theorem dX8_init_419 : decode cX8_init 419 = .ok (.bipush 110, 2) := by decide +kernel
theorem dX8_init_421 : decode cX8_init 421 = .ok (.bipush 100, 2) := by decide +kernel
theorem dX8_init_423 : decode cX8_init 423 = .ok (.iconst 0, 1) := by decide +kernel
theorem dX8_init_424 : decode cX8_init 424 = .ok (.iconst 0, 1) := by decide +kernel
theorem dX8_init_425 : decode cX8_init 425 = .ok (.iconst 0, 1) := by decide +kernel
theorem dX8_init_426 : decode cX8_init 426 = .ok (.invokestatic 153, 3) := by decide +kernel
theorem dX8_init_429 : decode cX8_init 429 = .ok (.lastore, 1) := by decide +kernel
theorem dX8_init_430 : decode cX8_init 430 = .ok (.aload_n 0, 1) := by decide +kernel
theorem dX8_init_431 : decode cX8_init 431 = .ok (.getfield 34, 3) := by decide +kernel
theorem dX8_init_434 : decode cX8_init 434 = .ok (.iconst 3, 1) := by decide +kernel
theorem dX8_init_435 : decode cX8_init 435 = .ok (.bipush 115, 2) := by decide +kernel
theorem dX8_init_437 : decode cX8_init 437 = .ok (.bipush 116, 2) := by decide +kernel
theorem dX8_init_439 : decode cX8_init 439 = .ok (.bipush 101, 2) := by decide +kernel
theorem dX8_init_441 : decode cX8_init 441 = .ok (.bipush 101, 2) := by decide +kernel
theorem dX8_init_443 : decode cX8_init 443 = .ok (.bipush 114, 2) := by decide +kernel
theorem dX8_init_445 : decode cX8_init 445 = .ok (.bipush 115, 2) := by decide +kernel
theorem dX8_init_447 : decode cX8_init 447 = .ok (.iconst 0, 1) := by decide +kernel
theorem dX8_init_448 : decode cX8_init 448 = .ok (.invokestatic 153, 3) := by decide +kernel
theorem dX8_init_451 : decode cX8_init 451 = .ok (.lastore, 1) := by decide +kernel
theorem dX8_init_452 : decode cX8_init 452 = .ok (.aload_n 0, 1) := by decide +kernel
theorem dX8_init_453 : decode cX8_init 453 = .ok (.getfield 34, 3) := by decide +kernel
theorem dX8_init_456 : decode cX8_init 456 = .ok (.iconst 4, 1) := by decide +kernel
theorem dX8_init_457 : decode cX8_init 457 = .ok (.bipush 108, 2) := by decide +kernel
theorem dX8_init_459 : decode cX8_init 459 = .ok (.bipush 105, 2) := by decide +kernel
theorem dX8_init_461 : decode cX8_init 461 = .ok (.bipush 101, 2) := by decide +kernel
theorem dX8_init_463 : decode cX8_init 463 = .ok (.bipush 115, 2) := by decide +kernel
theorem dX8_init_465 : decode cX8_init 465 = .ok (.iconst 0, 1) := by decide +kernel
theorem dX8_init_466 : decode cX8_init 466 = .ok (.iconst 0, 1) := by decide +kernel
theorem dX8_init_467 : decode cX8_init 467 = .ok (.iconst 0, 1) := by decide +kernel
theorem dX8_init_468 : decode cX8_init 468 = .ok (.invokestatic 153, 3) := by decide +kernel
theorem dX8_init_471 : decode cX8_init 471 = .ok (.lastore, 1) := by decide +kernel
theorem dX8_init_472 : decode cX8_init 472 = .ok (.aload_n 0, 1) := by decide +kernel
theorem dX8_init_473 : decode cX8_init 473 = .ok (.getfield 34, 3) := by decide +kernel
theorem dX8_init_476 : decode cX8_init 476 = .ok (.iconst 5, 1) := by decide +kernel
theorem dX8_init_477 : decode cX8_init 477 = .ok (.bipush 99, 2) := by decide +kernel
theorem dX8_init_479 : decode cX8_init 479 = .ok (.bipush 111, 2) := by decide +kernel
theorem dX8_init_481 : decode cX8_init 481 = .ok (.bipush 108, 2) := by decide +kernel
theorem dX8_init_483 : decode cX8_init 483 = .ok (.bipush 100, 2) := by decide +kernel
theorem dX8_init_485 : decode cX8_init 485 = .ok (.iconst 0, 1) := by decide +kernel
theorem dX8_init_486 : decode cX8_init 486 = .ok (.iconst 0, 1) := by decide +kernel
theorem dX8_init_487 : decode cX8_init 487 = .ok (.iconst 0, 1) := by decide +kernel
theorem dX8_init_488 : decode cX8_init 488 = .ok (.invokestatic 153, 3) := by decide +kernel
theorem dX8_init_491 : decode cX8_init 491 = .ok (.lastore, 1) := by decide +kernel
theorem dX8_init_492 : decode cX8_init 492 = .ok (.aload_n 0, 1) := by decide +kernel
theorem dX8_init_493 : decode cX8_init 493 = .ok (.getfield 34, 3) := by decide +kernel
theorem dX8_init_496 : decode cX8_init 496 = .ok (.bipush 6, 2) := by decide +kernel
theorem dX8_init_498 : decode cX8_init 498 = .ok (.bipush 115, 2) := by decide +kernel
theorem dX8_init_500 : decode cX8_init 500 = .ok (.bipush 101, 2) := by decide +kernel
theorem dX8_init_502 : decode cX8_init 502 = .ok (.bipush 101, 2) := by decide +kernel
theorem dX8_init_504 : decode cX8_init 504 = .ok (.bipush 100, 2) := by decide +kernel
theorem dX8_init_506 : decode cX8_init 506 = .ok (.iconst 0, 1) := by decide +kernel
theorem dX8_init_507 : decode cX8_init 507 = .ok (.iconst 0, 1) := by decide +kernel
theorem dX8_init_508 : decode cX8_init 508 = .ok (.iconst 0, 1) := by decide +kernel
theorem dX8_init_509 : decode cX8_init 509 = .ok (.invokestatic 153, 3) := by decide +kernel
theorem dX8_init_512 : decode cX8_init 512 = .ok (.lastore, 1) := by decide +kernel
theorem dX8_init_513 : decode cX8_init 513 = .ok (.aload_n 0, 1) := by decide +kernel
theorem dX8_init_514 : decode cX8_init 514 = .ok (.getfield 34, 3) := by decide +kernel
theorem dX8_init_517 : decode cX8_init 517 = .ok (.bipush 7, 2) := by decide +kernel
theorem dX8_init_519 : decode cX8_init 519 = .ok (.bipush 105, 2) := by decide +kernel
theorem dX8_init_521 : decode cX8_init 521 = .ok (.bipush 102, 2) := by decide +kernel
theorem dX8_init_523 : decode cX8_init 523 = .ok (.iconst 0, 1) := by decide +kernel
theorem dX8_init_524 : decode cX8_init 524 = .ok (.iconst 0, 1) := by decide +kernel
theorem dX8_init_525 : decode cX8_init 525 = .ok (.iconst 0, 1) := by decide +kernel
theorem dX8_init_526 : decode cX8_init 526 = .ok (.iconst 0, 1) := by decide +kernel
theorem dX8_init_527 : decode cX8_init 527 = .ok (.iconst 0, 1) := by decide +kernel
theorem dX8_init_528 : decode cX8_init 528 = .ok (.invokestatic 153, 3) := by decide +kernel
theorem dX8_init_531 : decode cX8_init 531 = .ok (.lastore, 1) := by decide +kernel
theorem dX8_init_532 : decode cX8_init 532 = .ok (.aload_n 0, 1) := by decide +kernel
theorem dX8_init_533 : decode cX8_init 533 = .ok (.getfield 34, 3) := by decide +kernel
theorem dX8_init_536 : decode cX8_init 536 = .ok (.bipush 8, 2) := by decide +kernel
theorem dX8_init_538 : decode cX8_init 538 = .ok (.bipush 116, 2) := by decide +kernel
theorem dX8_init_540 : decode cX8_init 540 = .ok (.bipush 104, 2) := by decide +kernel
theorem dX8_init_542 : decode cX8_init 542 = .ok (.bipush 101, 2) := by decide +kernel
theorem dX8_init_544 : decode cX8_init 544 = .ok (.bipush 110, 2) := by decide +kernel
theorem dX8_init_546 : decode cX8_init 546 = .ok (.iconst 0, 1) := by decide +kernel
theorem dX8_init_547 : decode cX8_init 547 = .ok (.iconst 0, 1) := by decide +kernel
theorem dX8_init_548 : decode cX8_init 548 = .ok (.iconst 0, 1) := by decide +kernel
theorem dX8_init_549 : decode cX8_init 549 = .ok (.invokestatic 153, 3) := by decide +kernel
theorem dX8_init_552 : decode cX8_init 552 = .ok (.lastore, 1) := by decide +kernel
theorem dX8_init_553 : decode cX8_init 553 = .ok (.aload_n 0, 1) := by decide +kernel
theorem dX8_init_554 : decode cX8_init 554 = .ok (.getfield 34, 3) := by decide +kernel
theorem dX8_init_557 : decode cX8_init 557 = .ok (.bipush 9, 2) := by decide +kernel
theorem dX8_init_559 : decode cX8_init 559 = .ok (.bipush 101, 2) := by decide +kernel
theorem dX8_init_561 : decode cX8_init 561 = .ok (.bipush 108, 2) := by decide +kernel
theorem dX8_init_563 : decode cX8_init 563 = .ok (.bipush 115, 2) := by decide +kernel
theorem dX8_init_565 : decode cX8_init 565 = .ok (.bipush 101, 2) := by decide +kernel
theorem dX8_init_567 : decode cX8_init 567 = .ok (.iconst 0, 1) := by decide +kernel
theorem dX8_init_568 : decode cX8_init 568 = .ok (.iconst 0, 1) := by decide +kernel
theorem dX8_init_569 : decode cX8_init 569 = .ok (.iconst 0, 1) := by decide +kernel
theorem dX8_init_570 : decode cX8_init 570 = .ok (.invokestatic 153, 3) := by decide +kernel
theorem dX8_init_573 : decode cX8_init 573 = .ok (.lastore, 1) := by decide +kernel
theorem dX8_init_574 : decode cX8_init 574 = .ok (.aload_n 0, 1) := by decide +kernel
theorem dX8_init_575 : decode cX8_init 575 = .ok (.getfield 34, 3) := by decide +kernel
theorem dX8_init_578 : decode cX8_init 578 = .ok (.bipush 10, 2) := by decide +kernel
theorem dX8_init_580 : decode cX8_init 580 = .ok (.bipush 104, 2) := by decide +kernel
theorem dX8_init_582 : decode cX8_init 582 = .ok (.bipush 111, 2) := by decide +kernel
theorem dX8_init_584 : decode cX8_init 584 = .ok (.bipush 117, 2) := by decide +kernel
theorem dX8_init_586 : decode cX8_init 586 = .ok (.bipush 114, 2) := by decide +kernel
theorem dX8_init_588 : decode cX8_init 588 = .ok (.iconst 0, 1) := by decide +kernel
theorem dX8_init_589 : decode cX8_init 589 = .ok (.iconst 0, 1) := by decide +kernel
theorem dX8_init_590 : decode cX8_init 590 = .ok (.iconst 0, 1) := by decide +kernel
theorem dX8_init_591 : decode cX8_init 591 = .ok (.invokestatic 153, 3) := by decide +kernel
theorem dX8_init_594 : decode cX8_init 594 = .ok (.lastore, 1) := by decide +kernel
theorem dX8_init_595 : decode cX8_init 595 = .ok (.aload_n 0, 1) := by decide +kernel
theorem dX8_init_596 : decode cX8_init 596 = .ok (.getfield 34, 3) := by decide +kernel
theorem dX8_init_599 : decode cX8_init 599 = .ok (.bipush 11, 2) := by decide +kernel
theorem dX8_init_601 : decode cX8_init 601 = .ok (.bipush 101, 2) := by decide +kernel
theorem dX8_init_603 : decode cX8_init 603 = .ok (.bipush 97, 2) := by decide +kernel
theorem dX8_init_605 : decode cX8_init 605 = .ok (.bipush 115, 2) := by decide +kernel
theorem dX8_init_607 : decode cX8_init 607 = .ok (.bipush 116, 2) := by decide +kernel
theorem dX8_init_609 : decode cX8_init 609 = .ok (.iconst 0, 1) := by decide +kernel
theorem dX8_init_610 : decode cX8_init 610 = .ok (.iconst 0, 1) := by decide +kernel
theorem dX8_init_611 : decode cX8_init 611 = .ok (.iconst 0, 1) := by decide +kernel
theorem dX8_init_612 : decode cX8_init 612 = .ok (.invokestatic 153, 3) := by decide +kernel
theorem dX8_init_615 : decode cX8_init 615 = .ok (.lastore, 1) := by decide +kernel
theorem dX8_init_616 : decode cX8_init 616 = .ok (.aload_n 0, 1) := by decide +kernel
theorem dX8_init_617 : decode cX8_init 617 = .ok (.getfield 34, 3) := by decide +kernel
theorem dX8_init_620 : decode cX8_init 620 = .ok (.bipush 12, 2) := by decide +kernel
theorem dX8_init_622 : decode cX8_init 622 = .ok (.bipush 115, 2) := by decide +kernel
theorem dX8_init_624 : decode cX8_init 624 = .ok (.bipush 111, 2) := by decide +kernel
theorem dX8_init_626 : decode cX8_init 626 = .ok (.bipush 117, 2) := by decide +kernel
theorem dX8_init_628 : decode cX8_init 628 = .ok (.bipush 116, 2) := by decide +kernel
theorem dX8_init_630 : decode cX8_init 630 = .ok (.bipush 104, 2) := by decide +kernel
theorem dX8_init_632 : decode cX8_init 632 = .ok (.iconst 0, 1) := by decide +kernel
theorem dX8_init_633 : decode cX8_init 633 = .ok (.iconst 0, 1) := by decide +kernel
theorem dX8_init_634 : decode cX8_init 634 = .ok (.invokestatic 153, 3) := by decide +kernel
theorem dX8_init_637 : decode cX8_init 637 = .ok (.lastore, 1) := by decide +kernel
theorem dX8_init_638 : decode cX8_init 638 = .ok (.aload_n 0, 1) := by decide +kernel
theorem dX8_init_639 : decode cX8_init 639 = .ok (.getfield 34, 3) := by decide +kernel
theorem dX8_init_642 : decode cX8_init 642 = .ok (.bipush 13, 2) := by decide +kernel
theorem dX8_init_644 : decode cX8_init 644 = .ok (.bipush 98, 2) := by decide +kernel
theorem dX8_init_646 : decode cX8_init 646 = .ok (.bipush 108, 2) := by decide +kernel
theorem dX8_init_648 : decode cX8_init 648 = .ok (.bipush 111, 2) := by decide +kernel
theorem dX8_init_650 : decode cX8_init 650 = .ok (.bipush 119, 2) := by decide +kernel
theorem dX8_init_652 : decode cX8_init 652 = .ok (.bipush 115, 2) := by decide +kernel
theorem dX8_init_654 : decode cX8_init 654 = .ok (.iconst 0, 1) := by decide +kernel
theorem dX8_init_655 : decode cX8_init 655 = .ok (.iconst 0, 1) := by decide +kernel
theorem dX8_init_656 : decode cX8_init 656 = .ok (.invokestatic 153, 3) := by decide +kernel
theorem dX8_init_659 : decode cX8_init 659 = .ok (.lastore, 1) := by decide +kernel
theorem dX8_init_660 : decode cX8_init 660 = .ok (.aload_n 0, 1) := by decide +kernel
theorem dX8_init_661 : decode cX8_init 661 = .ok (.getfield 34, 3) := by decide +kernel
theorem dX8_init_664 : decode cX8_init 664 = .ok (.bipush 14, 2) := by decide +kernel
theorem dX8_init_666 : decode cX8_init 666 = .ok (.bipush 115, 2) := by decide +kernel
theorem dX8_init_668 : decode cX8_init 668 = .ok (.bipush 109, 2) := by decide +kernel
theorem dX8_init_670 : decode cX8_init 670 = .ok (.bipush 101, 2) := by decide +kernel
theorem dX8_init_672 : decode cX8_init 672 = .ok (.bipush 108, 2) := by decide +kernel
theorem dX8_init_674 : decode cX8_init 674 = .ok (.bipush 108, 2) := by decide +kernel
theorem dX8_init_676 : decode cX8_init 676 = .ok (.bipush 115, 2) := by decide +kernel
theorem dX8_init_678 : decode cX8_init 678 = .ok (.iconst 0, 1) := by decide +kernel
theorem dX8_init_679 : decode cX8_init 679 = .ok (.invokestatic 153, 3) := by decide +kernel
theorem dX8_init_682 : decode cX8_init 682 = .ok (.lastore, 1) := by decide +kernel
theorem dX8_init_683 : decode cX8_init 683 = .ok (.aload_n 0, 1) := by decide +kernel
theorem dX8_init_684 : decode cX8_init 684 = .ok (.getfield 34, 3) := by decide +kernel
theorem dX8_init_687 : decode cX8_init 687 = .ok (.bipush 15, 2) := by decide +kernel
theorem dX8_init_689 : decode cX8_init 689 = .ok (.bipush 110, 2) := by decide +kernel
theorem dX8_init_691 : decode cX8_init 691 = .ok (.bipush 101, 2) := by decide +kernel
theorem dX8_init_693 : decode cX8_init 693 = .ok (.bipush 97, 2) := by decide +kernel
theorem dX8_init_695 : decode cX8_init 695 = .ok (.bipush 114, 2) := by decide +kernel
theorem dX8_init_697 : decode cX8_init 697 = .ok (.iconst 0, 1) := by decide +kernel
theorem dX8_init_698 : decode cX8_init 698 = .ok (.iconst 0, 1) := by decide +kernel
theorem dX8_init_699 : decode cX8_init 699 = .ok (.iconst 0, 1) := by decide +kernel
theorem dX8_init_700 : decode cX8_init 700 = .ok (.invokestatic 153, 3) := by decide +kernel
theorem dX8_init_703 : decode cX8_init 703 = .ok (.lastore, 1) := by decide +kernel
theorem dX8_init_704 : decode cX8_init 704 = .ok (.aload_n 0, 1) := by decide +kernel
theorem dX8_init_705 : decode cX8_init 705 = .ok (.getfield 34, 3) := by decide +kernel
theorem dX8_init_708 : decode cX8_init 708 = .ok (.bipush 16, 2) := by decide +kernel
theorem dX8_init_710 : decode cX8_init 710 = .ok (.bipush 119, 2) := by decide +kernel
theorem dX8_init_712 : decode cX8_init 712 = .ok (.bipush 104, 2) := by decide +kernel
theorem dX8_init_714 : decode cX8_init 714 = .ok (.bipush 105, 2) := by decide +kernel
theorem dX8_init_716 : decode cX8_init 716 = .ok (.bipush 99, 2) := by decide +kernel
theorem dX8_init_718 : decode cX8_init 718 = .ok (.bipush 104, 2) := by decide +kernel
theorem dX8_init_720 : decode cX8_init 720 = .ok (.iconst 0, 1) := by decide +kernel
theorem dX8_init_721 : decode cX8_init 721 = .ok (.iconst 0, 1) := by decide +kernel
theorem dX8_init_722 : decode cX8_init 722 = .ok (.invokestatic 153, 3) := by decide +kernel
theorem dX8_init_725 : decode cX8_init 725 = .ok (.lastore, 1) := by decide +kernel
theorem dX8_init_726 : decode cX8_init 726 = .ok (.aload_n 0, 1) := by decide +kernel
theorem dX8_init_727 : decode cX8_init 727 = .ok (.getfield 34, 3) := by decide +kernel
theorem dX8_init_730 : decode cX8_init 730 = .ok (.bipush 17, 2) := by decide +kernel
theorem dX8_init_732 : decode cX8_init 732 = .ok (.bipush 115, 2) := by decide +kernel
theorem dX8_init_734 : decode cX8_init 734 = .ok (.bipush 116, 2) := by decide +kernel
theorem dX8_init_736 : decode cX8_init 736 = .ok (.bipush 114, 2) := by decide +kernel
theorem dX8_init_738 : decode cX8_init 738 = .ok (.bipush 111, 2) := by decide +kernel
theorem dX8_init_740 : decode cX8_init 740 = .ok (.bipush 110, 2) := by decide +kernel
theorem dX8_init_742 : decode cX8_init 742 = .ok (.bipush 103, 2) := by decide +kernel
theorem dX8_init_744 : decode cX8_init 744 = .ok (.iconst 0, 1) := by decide +kernel
theorem dX8_init_745 : decode cX8_init 745 = .ok (.invokestatic 153, 3) := by decide +kernel
theorem dX8_init_748 : decode cX8_init 748 = .ok (.lastore, 1) := by decide +kernel
theorem dX8_init_749 : decode cX8_init 749 = .ok (.aload_n 0, 1) := by decide +kernel
theorem dX8_init_750 : decode cX8_init 750 = .ok (.getfield 34, 3) := by decide +kernel
theorem dX8_init_753 : decode cX8_init 753 = .ok (.bipush 18, 2) := by decide +kernel
theorem dX8_init_755 : decode cX8_init 755 = .ok (.bipush 112, 2) := by decide +kernel
theorem dX8_init_757 : decode cX8_init 757 = .ok (.bipush 108, 2) := by decide +kernel
theorem dX8_init_759 : decode cX8_init 759 = .ok (.bipush 97, 2) := by decide +kernel
theorem dX8_init_761 : decode cX8_init 761 = .ok (.bipush 99, 2) := by decide +kernel
theorem dX8_init_763 : decode cX8_init 763 = .ok (.bipush 101, 2) := by decide +kernel
theorem dX8_init_765 : decode cX8_init 765 = .ok (.bipush 100, 2) := by decide +kernel
theorem dX8_init_767 : decode cX8_init 767 = .ok (.iconst 0, 1) := by decide +kernel
theorem dX8_init_768 : decode cX8_init 768 = .ok (.invokestatic 153, 3) := by decide +kernel
theorem dX8_init_771 : decode cX8_init 771 = .ok (.lastore, 1) := by decide +kernel
theorem dX8_init_772 : decode cX8_init 772 = .ok (.aload_n 0, 1) := by decide +kernel
theorem dX8_init_773 : decode cX8_init 773 = .ok (.invokevirtual 157, 3) := by decide +kernel
theorem dX8_init_776 : decode cX8_init 776 = .ok (.aload_n 0, 1) := by decide +kernel
theorem dX8_init_777 : decode cX8_init 777 = .ok (.invokevirtual 160, 3) := by decide +kernel
theorem dX8_init_780 : decode cX8_init 780 = .ok (.return_, 1) := by decide +kernel
theorem ms_RX8_153 : MS RX8 153 yX8_word cX8_word 7 (some .long) 7 := ⟨gd_cons (lg_at 1138 (by decide +kernel) rfl) (gd_cons (lg_at 1139 (by decide +kernel) rfl) (gd_cons (lg_at 118 (by decide +kernel) rfl) (gd_cons (lg_at 1140 (by decide +kernel) rfl) gd_tbl))), by decide +kernel, by decide⟩
theorem mv_RX0_63 : MV RX0 63 0 yX0_clear cX0_clear 1 none 0 := MV.mk RX0 TX0 15 rfl (by decide) (lg_at 180 (by decide +kernel) rfl) (lg_at 181 (by decide +kernel) rfl) (lg_at 182 (by decide +kernel) rfl) (lg_at 111 (by decide +kernel) rfl) (lg_at 183 (by decide +kernel) rfl) (by decide +kernel) (by decide)
theorem nl_RX2_15 : NL RX2 15 5 := ⟨RX5, TX5, 7, tyX5, rfl, inX5, by decide +kernel, by decide, tyX5_ok, (lg_at 399 (by decide +kernel) rfl), (lg_at 312 (by decide +kernel) rfl), (lg_at 114 (by decide +kernel) rfl), dfX5⟩
theorem mi_RX2_17 : MI RX2 17 yX5_init cX5_init 1 := ⟨gd_cons (lg_at 315 (by decide +kernel) rfl) gd_tbl, (lg_at 114 (by decide +kernel) rfl), (lg_at 314 (by decide +kernel) rfl), rfl, by decide +kernel, by decide, Or.inr (by decide +kernel)⟩
theorem nl_RX3_15 : NL RX3 15 5 := ⟨RX5, TX5, 7, tyX5, rfl, inX5, by decide +kernel, by decide, tyX5_ok, (lg_at 356 (by decide +kernel) rfl), (lg_at 312 (by decide +kernel) rfl), (lg_at 114 (by decide +kernel) rfl), dfX5⟩
theorem mi_RX3_24 : MI RX3 24 yX5_init cX5_init 1 := ⟨gd_cons (lg_at 315 (by decide +kernel) rfl) gd_tbl, (lg_at 114 (by decide +kernel) rfl), (lg_at 314 (by decide +kernel) rfl), rfl, by decide +kernel, by decide, Or.inr (by decide +kernel)⟩
theorem nl_RX0_50 : NL RX0 50 1 := ⟨RX1, TX1, 7, tyX1, rfl, inX1, by decide +kernel, by decide, tyX1_ok, (lg_at 148 (by decide +kernel) rfl), (lg_at 149 (by decide +kernel) rfl), (lg_at 112 (by decide +kernel) rfl), dfX1⟩
theorem mi_RX0_52 : MI RX0 52 yX1_init cX1_init 1 := ⟨gd_cons (lg_at 152 (by decide +kernel) rfl) gd_tbl, (lg_at 112 (by decide +kernel) rfl), (lg_at 151 (by decide +kernel) rfl), rfl, by decide +kernel, by decide, Or.inr (by decide +kernel)⟩
theorem nl_RX4_19 : NL RX4 19 0 := ⟨RX0, TX0, 15, tyX0, rfl, inX0, by decide +kernel, by decide, tyX0_ok, (lg_at 142 (by decide +kernel) rfl), (lg_at 143 (by decide +kernel) rfl), (lg_at 111 (by decide +kernel) rfl), dfX0⟩
theorem mi_RX4_21 : MI RX4 21 yX0_init cX0_init 1 := ⟨gd_cons (lg_at 146 (by decide +kernel) rfl) gd_tbl, (lg_at 111 (by decide +kernel) rfl), (lg_at 145 (by decide +kernel) rfl), rfl, by decide +kernel, by decide, Or.inl (lg_at 144 (by decide +kernel) rfl)⟩
theorem nl_RX7_9 : NL RX7 9 4 := ⟨RX4, TX4, 11, tyX4, rfl, inX4, by decide +kernel, by decide, tyX4_ok, (lg_at 136 (by decide +kernel) rfl), (lg_at 137 (by decide +kernel) rfl), (lg_at 110 (by decide +kernel) rfl), dfX4⟩
theorem mi_RX7_11 : MI RX7 11 yX4_init cX4_init 1 := ⟨gd_cons (lg_at 140 (by decide +kernel) rfl) gd_tbl, (lg_at 110 (by decide +kernel) rfl), (lg_at 139 (by decide +kernel) rfl), rfl, by decide +kernel, by decide, Or.inr (by decide +kernel)⟩
theorem nl_RX7_16 : NL RX7 16 0 := ⟨RX0, TX0, 15, tyX0, rfl, inX0, by decide +kernel, by decide, tyX0_ok, (lg_at 309 (by decide +kernel) rfl), (lg_at 143 (by decide +kernel) rfl), (lg_at 111 (by decide +kernel) rfl), dfX0⟩
theorem mi_RX7_18 : MI RX7 18 yX0_init cX0_init 1 := ⟨gd_cons (lg_at 146 (by decide +kernel) rfl) gd_tbl, (lg_at 111 (by decide +kernel) rfl), (lg_at 145 (by decide +kernel) rfl), rfl, by decide +kernel, by decide, Or.inl (lg_at 310 (by decide +kernel) rfl)⟩
theorem nl_RX7_23 : NL RX7 23 5 := ⟨RX5, TX5, 7, tyX5, rfl, inX5, by decide +kernel, by decide, tyX5_ok, (lg_at 311 (by decide +kernel) rfl), (lg_at 312 (by decide +kernel) rfl), (lg_at 114 (by decide +kernel) rfl), dfX5⟩
theorem mi_RX7_25 : MI RX7 25 yX5_init cX5_init 1 := ⟨gd_cons (lg_at 315 (by decide +kernel) rfl) gd_tbl, (lg_at 114 (by decide +kernel) rfl), (lg_at 314 (by decide +kernel) rfl), rfl, by decide +kernel, by decide, Or.inr (by decide +kernel)⟩
theorem nl_RX7_33 : NL RX7 33 3 := ⟨RX3, TX3, 3, tyX3, rfl, inX3, by decide +kernel, by decide, tyX3_ok, (lg_at 350 (by decide +kernel) rfl), (lg_at 351 (by decide +kernel) rfl), (lg_at 115 (by decide +kernel) rfl), dfX3⟩
theorem mi_RX7_35 : MI RX7 35 yX3_init cX3_init 2 := ⟨gd_cons (lg_at 354 (by decide +kernel) rfl) gd_tbl, (lg_at 115 (by decide +kernel) rfl), (lg_at 353 (by decide +kernel) rfl), rfl, by decide +kernel, by decide, Or.inl (lg_at 352 (by decide +kernel) rfl)⟩
theorem nl_RX7_48 : NL RX7 48 6 := ⟨RX6, TX6, 5, tyX6, rfl, inX6, by decide +kernel, by decide, tyX6_ok, (lg_at 370 (by decide +kernel) rfl), (lg_at 371 (by decide +kernel) rfl), (lg_at 116 (by decide +kernel) rfl), dfX6⟩
theorem mi_RX7_50 : MI RX7 50 yX6_init cX6_init 1 := ⟨gd_cons (lg_at 374 (by decide +kernel) rfl) gd_tbl, (lg_at 116 (by decide +kernel) rfl), (lg_at 373 (by decide +kernel) rfl), rfl, by decide +kernel, by decide, Or.inr (by decide +kernel)⟩
theorem nl_RX7_55 : NL RX7 55 2 := ⟨RX2, TX2, 2, tyX2, rfl, inX2, by decide +kernel, by decide, tyX2_ok, (lg_at 393 (by decide +kernel) rfl), (lg_at 394 (by decide +kernel) rfl), (lg_at 117 (by decide +kernel) rfl), dfX2⟩
theorem mi_RX7_57 : MI RX7 57 yX2_init cX2_init 1 := ⟨gd_cons (lg_at 397 (by decide +kernel) rfl) gd_tbl, (lg_at 117 (by decide +kernel) rfl), (lg_at 396 (by decide +kernel) rfl), rfl, by decide +kernel, by decide, Or.inr (by decide +kernel)⟩
