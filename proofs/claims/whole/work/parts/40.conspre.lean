theorem d_X0_init_0 : Dc m_X0_init 0 (.aload_n 0) 1 1 := ⟨by decide +kernel, rfl⟩
theorem d_X0_init_1 : Dc m_X0_init 1 (.invokespecial 1) 3 4 := ⟨by decide +kernel, rfl⟩
theorem d_X0_init_4 : Dc m_X0_init 4 (.aload_n 0) 1 5 := ⟨by decide +kernel, rfl⟩
theorem d_X0_init_5 : Dc m_X0_init 5 (.bipush 24) 2 7 := ⟨by decide +kernel, rfl⟩
theorem d_X0_init_7 : Dc m_X0_init 7 (.bipush 7) 2 9 := ⟨by decide +kernel, rfl⟩
theorem d_X0_init_9 : Dc m_X0_init 9 (.multianewarray 9 2) 4 13 := ⟨by decide +kernel, rfl⟩
theorem d_X0_init_13 : Dc m_X0_init 13 (.putfield 11) 3 16 := ⟨by decide +kernel, rfl⟩
theorem d_X0_init_16 : Dc m_X0_init 16 (.return_) 1 17 := ⟨by decide +kernel, rfl⟩
theorem d_X1_init_0 : Dc m_X1_init 0 (.aload_n 0) 1 1 := ⟨by decide +kernel, rfl⟩
theorem d_X1_init_1 : Dc m_X1_init 1 (.invokespecial 3) 3 4 := ⟨by decide +kernel, rfl⟩
theorem d_X1_init_4 : Dc m_X1_init 4 (.aload_n 0) 1 5 := ⟨by decide +kernel, rfl⟩
theorem d_X1_init_5 : Dc m_X1_init 5 (.bipush 16) 2 7 := ⟨by decide +kernel, rfl⟩
theorem d_X1_init_7 : Dc m_X1_init 7 (.newarray .int) 2 9 := ⟨by decide +kernel, rfl⟩
theorem d_X1_init_9 : Dc m_X1_init 9 (.putfield 11) 3 12 := ⟨by decide +kernel, rfl⟩
theorem d_X1_init_12 : Dc m_X1_init 12 (.return_) 1 13 := ⟨by decide +kernel, rfl⟩
theorem d_X2_init_0 : Dc m_X2_init 0 (.aload_n 0) 1 1 := ⟨by decide +kernel, rfl⟩
theorem d_X2_init_1 : Dc m_X2_init 1 (.invokespecial 3) 3 4 := ⟨by decide +kernel, rfl⟩
theorem d_X2_init_4 : Dc m_X2_init 4 (.aload_n 0) 1 5 := ⟨by decide +kernel, rfl⟩
theorem d_X2_init_5 : Dc m_X2_init 5 (.bipush 8) 2 7 := ⟨by decide +kernel, rfl⟩
theorem d_X2_init_7 : Dc m_X2_init 7 (.newarray .int) 2 9 := ⟨by decide +kernel, rfl⟩
theorem d_X2_init_9 : Dc m_X2_init 9 (.putfield 11) 3 12 := ⟨by decide +kernel, rfl⟩
theorem d_X2_init_12 : Dc m_X2_init 12 (.aload_n 0) 1 13 := ⟨by decide +kernel, rfl⟩
theorem d_X2_init_13 : Dc m_X2_init 13 (.bipush 8) 2 15 := ⟨by decide +kernel, rfl⟩
theorem d_X2_init_15 : Dc m_X2_init 15 (.newarray .int) 2 17 := ⟨by decide +kernel, rfl⟩
theorem d_X2_init_17 : Dc m_X2_init 17 (.putfield 15) 3 20 := ⟨by decide +kernel, rfl⟩
theorem d_X2_init_20 : Dc m_X2_init 20 (.aload_n 0) 1 21 := ⟨by decide +kernel, rfl⟩
theorem d_X2_init_21 : Dc m_X2_init 21 (.bipush 8) 2 23 := ⟨by decide +kernel, rfl⟩
theorem d_X2_init_23 : Dc m_X2_init 23 (.bipush 40) 2 25 := ⟨by decide +kernel, rfl⟩
theorem d_X2_init_25 : Dc m_X2_init 25 (.multianewarray 18 2) 4 29 := ⟨by decide +kernel, rfl⟩
theorem d_X2_init_29 : Dc m_X2_init 29 (.putfield 20) 3 32 := ⟨by decide +kernel, rfl⟩
theorem d_X2_init_32 : Dc m_X2_init 32 (.aload_n 0) 1 33 := ⟨by decide +kernel, rfl⟩
theorem d_X2_init_33 : Dc m_X2_init 33 (.getfield 11) 3 36 := ⟨by decide +kernel, rfl⟩
theorem d_X2_init_36 : Dc m_X2_init 36 (.iconst (-1)) 1 37 := ⟨by decide +kernel, rfl⟩
theorem d_X2_init_37 : Dc m_X2_init 37 (.invokestatic 23) 3 40 := ⟨by decide +kernel, rfl⟩
theorem d_X2_init_40 : Dc m_X2_init 40 (.return_) 1 41 := ⟨by decide +kernel, rfl⟩
theorem d_X3_init_0 : Dc m_X3_init 0 (.aload_n 0) 1 1 := ⟨by decide +kernel, rfl⟩
theorem d_X3_init_1 : Dc m_X3_init 1 (.invokespecial 3) 3 4 := ⟨by decide +kernel, rfl⟩
theorem d_X3_init_4 : Dc m_X3_init 4 (.aload_n 0) 1 5 := ⟨by decide +kernel, rfl⟩
theorem d_X3_init_5 : Dc m_X3_init 5 (.new 9) 3 8 := ⟨by decide +kernel, rfl⟩
theorem d_X3_init_8 : Dc m_X3_init 8 (.dup) 1 9 := ⟨by decide +kernel, rfl⟩
theorem d_X3_init_9 : Dc m_X3_init 9 (.invokespecial 11) 3 12 := ⟨by decide +kernel, rfl⟩
theorem d_X3_init_12 : Dc m_X3_init 12 (.putfield 12) 3 15 := ⟨by decide +kernel, rfl⟩
theorem d_X3_init_15 : Dc m_X3_init 15 (.aload_n 0) 1 16 := ⟨by decide +kernel, rfl⟩
theorem d_X3_init_16 : Dc m_X3_init 16 (.bipush 6) 2 18 := ⟨by decide +kernel, rfl⟩
theorem d_X3_init_18 : Dc m_X3_init 18 (.newarray .int) 2 20 := ⟨by decide +kernel, rfl⟩
theorem d_X3_init_20 : Dc m_X3_init 20 (.putfield 18) 3 23 := ⟨by decide +kernel, rfl⟩
theorem d_X3_init_23 : Dc m_X3_init 23 (.aload_n 0) 1 24 := ⟨by decide +kernel, rfl⟩
theorem d_X3_init_24 : Dc m_X3_init 24 (.bipush 6) 2 26 := ⟨by decide +kernel, rfl⟩
theorem d_X3_init_26 : Dc m_X3_init 26 (.newarray .int) 2 28 := ⟨by decide +kernel, rfl⟩
theorem d_X3_init_28 : Dc m_X3_init 28 (.putfield 22) 3 31 := ⟨by decide +kernel, rfl⟩
theorem d_X3_init_31 : Dc m_X3_init 31 (.aload_n 0) 1 32 := ⟨by decide +kernel, rfl⟩
theorem d_X3_init_32 : Dc m_X3_init 32 (.bipush 64) 2 34 := ⟨by decide +kernel, rfl⟩
theorem d_X3_init_34 : Dc m_X3_init 34 (.newarray .int) 2 36 := ⟨by decide +kernel, rfl⟩
theorem d_X3_init_36 : Dc m_X3_init 36 (.putfield 25) 3 39 := ⟨by decide +kernel, rfl⟩
theorem d_X3_init_39 : Dc m_X3_init 39 (.return_) 1 40 := ⟨by decide +kernel, rfl⟩
theorem d_X4_init_0 : Dc m_X4_init 0 (.aload_n 0) 1 1 := ⟨by decide +kernel, rfl⟩
theorem d_X4_init_1 : Dc m_X4_init 1 (.invokespecial 3) 3 4 := ⟨by decide +kernel, rfl⟩
theorem d_X4_init_4 : Dc m_X4_init 4 (.aload_n 0) 1 5 := ⟨by decide +kernel, rfl⟩
theorem d_X4_init_5 : Dc m_X4_init 5 (.bipush 6) 2 7 := ⟨by decide +kernel, rfl⟩
theorem d_X4_init_7 : Dc m_X4_init 7 (.newarray .int) 2 9 := ⟨by decide +kernel, rfl⟩
theorem d_X4_init_9 : Dc m_X4_init 9 (.putfield 9) 3 12 := ⟨by decide +kernel, rfl⟩
theorem d_X4_init_12 : Dc m_X4_init 12 (.aload_n 0) 1 13 := ⟨by decide +kernel, rfl⟩
theorem d_X4_init_13 : Dc m_X4_init 13 (.iconst 4) 1 14 := ⟨by decide +kernel, rfl⟩
theorem d_X4_init_14 : Dc m_X4_init 14 (.newarray .int) 2 16 := ⟨by decide +kernel, rfl⟩
theorem d_X4_init_16 : Dc m_X4_init 16 (.putfield 15) 3 19 := ⟨by decide +kernel, rfl⟩
theorem d_X4_init_19 : Dc m_X4_init 19 (.aload_n 0) 1 20 := ⟨by decide +kernel, rfl⟩
theorem d_X4_init_20 : Dc m_X4_init 20 (.bipush 6) 2 22 := ⟨by decide +kernel, rfl⟩
theorem d_X4_init_22 : Dc m_X4_init 22 (.newarray .int) 2 24 := ⟨by decide +kernel, rfl⟩
theorem d_X4_init_24 : Dc m_X4_init 24 (.putfield 18) 3 27 := ⟨by decide +kernel, rfl⟩
theorem d_X4_init_27 : Dc m_X4_init 27 (.aload_n 0) 1 28 := ⟨by decide +kernel, rfl⟩
theorem d_X4_init_28 : Dc m_X4_init 28 (.iconst 0) 1 29 := ⟨by decide +kernel, rfl⟩
theorem d_X4_init_29 : Dc m_X4_init 29 (.newarray .int) 2 31 := ⟨by decide +kernel, rfl⟩
theorem d_X4_init_31 : Dc m_X4_init 31 (.putfield 21) 3 34 := ⟨by decide +kernel, rfl⟩
theorem d_X4_init_34 : Dc m_X4_init 34 (.return_) 1 35 := ⟨by decide +kernel, rfl⟩
theorem d_X5_init_0 : Dc m_X5_init 0 (.aload_n 0) 1 1 := ⟨by decide +kernel, rfl⟩
theorem d_X5_init_1 : Dc m_X5_init 1 (.invokespecial 3) 3 4 := ⟨by decide +kernel, rfl⟩
theorem d_X5_init_4 : Dc m_X5_init 4 (.aload_n 0) 1 5 := ⟨by decide +kernel, rfl⟩
theorem d_X5_init_5 : Dc m_X5_init 5 (.bipush 100) 2 7 := ⟨by decide +kernel, rfl⟩
theorem d_X5_init_7 : Dc m_X5_init 7 (.newarray .int) 2 9 := ⟨by decide +kernel, rfl⟩
theorem d_X5_init_9 : Dc m_X5_init 9 (.putfield 11) 3 12 := ⟨by decide +kernel, rfl⟩
theorem d_X5_init_12 : Dc m_X5_init 12 (.return_) 1 13 := ⟨by decide +kernel, rfl⟩
theorem d_X6_init_0 : Dc m_X6_init 0 (.aload_n 0) 1 1 := ⟨by decide +kernel, rfl⟩
theorem d_X6_init_1 : Dc m_X6_init 1 (.invokespecial 3) 3 4 := ⟨by decide +kernel, rfl⟩
theorem d_X6_init_4 : Dc m_X6_init 4 (.aload_n 0) 1 5 := ⟨by decide +kernel, rfl⟩
theorem d_X6_init_5 : Dc m_X6_init 5 (.bipush 6) 2 7 := ⟨by decide +kernel, rfl⟩
theorem d_X6_init_7 : Dc m_X6_init 7 (.newarray .int) 2 9 := ⟨by decide +kernel, rfl⟩
theorem d_X6_init_9 : Dc m_X6_init 9 (.putfield 9) 3 12 := ⟨by decide +kernel, rfl⟩
theorem d_X6_init_12 : Dc m_X6_init 12 (.aload_n 0) 1 13 := ⟨by decide +kernel, rfl⟩
theorem d_X6_init_13 : Dc m_X6_init 13 (.bipush 6) 2 15 := ⟨by decide +kernel, rfl⟩
theorem d_X6_init_15 : Dc m_X6_init 15 (.newarray .int) 2 17 := ⟨by decide +kernel, rfl⟩
theorem d_X6_init_17 : Dc m_X6_init 17 (.putfield 15) 3 20 := ⟨by decide +kernel, rfl⟩
theorem d_X6_init_20 : Dc m_X6_init 20 (.aload_n 0) 1 21 := ⟨by decide +kernel, rfl⟩
theorem d_X6_init_21 : Dc m_X6_init 21 (.bipush 6) 2 23 := ⟨by decide +kernel, rfl⟩
theorem d_X6_init_23 : Dc m_X6_init 23 (.newarray .int) 2 25 := ⟨by decide +kernel, rfl⟩
theorem d_X6_init_25 : Dc m_X6_init 25 (.putfield 18) 3 28 := ⟨by decide +kernel, rfl⟩
theorem d_X6_init_28 : Dc m_X6_init 28 (.aload_n 0) 1 29 := ⟨by decide +kernel, rfl⟩
theorem d_X6_init_29 : Dc m_X6_init 29 (.bipush 6) 2 31 := ⟨by decide +kernel, rfl⟩
theorem d_X6_init_31 : Dc m_X6_init 31 (.newarray .int) 2 33 := ⟨by decide +kernel, rfl⟩
theorem d_X6_init_33 : Dc m_X6_init 33 (.putfield 21) 3 36 := ⟨by decide +kernel, rfl⟩
theorem d_X6_init_36 : Dc m_X6_init 36 (.return_) 1 37 := ⟨by decide +kernel, rfl⟩
theorem d_X7_init_0 : Dc m_X7_init 0 (.aload_n 0) 1 1 := ⟨by decide +kernel, rfl⟩
theorem d_X7_init_1 : Dc m_X7_init 1 (.invokespecial 1) 3 4 := ⟨by decide +kernel, rfl⟩
theorem d_X7_init_4 : Dc m_X7_init 4 (.aload_n 0) 1 5 := ⟨by decide +kernel, rfl⟩
theorem d_X7_init_5 : Dc m_X7_init 5 (.new 7) 3 8 := ⟨by decide +kernel, rfl⟩
theorem d_X7_init_8 : Dc m_X7_init 8 (.dup) 1 9 := ⟨by decide +kernel, rfl⟩
theorem d_X7_init_9 : Dc m_X7_init 9 (.invokespecial 9) 3 12 := ⟨by decide +kernel, rfl⟩
theorem d_X7_init_12 : Dc m_X7_init 12 (.putfield 10) 3 15 := ⟨by decide +kernel, rfl⟩
theorem d_X7_init_15 : Dc m_X7_init 15 (.aload_n 0) 1 16 := ⟨by decide +kernel, rfl⟩
theorem d_X7_init_16 : Dc m_X7_init 16 (.new 16) 3 19 := ⟨by decide +kernel, rfl⟩
theorem d_X7_init_19 : Dc m_X7_init 19 (.dup) 1 20 := ⟨by decide +kernel, rfl⟩
theorem d_X7_init_20 : Dc m_X7_init 20 (.invokespecial 18) 3 23 := ⟨by decide +kernel, rfl⟩
theorem d_X7_init_23 : Dc m_X7_init 23 (.putfield 19) 3 26 := ⟨by decide +kernel, rfl⟩
theorem d_X7_init_26 : Dc m_X7_init 26 (.aload_n 0) 1 27 := ⟨by decide +kernel, rfl⟩
theorem d_X7_init_27 : Dc m_X7_init 27 (.new 23) 3 30 := ⟨by decide +kernel, rfl⟩
theorem d_X7_init_30 : Dc m_X7_init 30 (.dup) 1 31 := ⟨by decide +kernel, rfl⟩
theorem d_X7_init_31 : Dc m_X7_init 31 (.invokespecial 25) 3 34 := ⟨by decide +kernel, rfl⟩
theorem d_X7_init_34 : Dc m_X7_init 34 (.putfield 26) 3 37 := ⟨by decide +kernel, rfl⟩
theorem d_X7_init_37 : Dc m_X7_init 37 (.aload_n 0) 1 38 := ⟨by decide +kernel, rfl⟩
theorem d_X7_init_38 : Dc m_X7_init 38 (.new 23) 3 41 := ⟨by decide +kernel, rfl⟩
theorem d_X7_init_41 : Dc m_X7_init 41 (.dup) 1 42 := ⟨by decide +kernel, rfl⟩
theorem d_X7_init_42 : Dc m_X7_init 42 (.invokespecial 25) 3 45 := ⟨by decide +kernel, rfl⟩
theorem d_X7_init_45 : Dc m_X7_init 45 (.putfield 30) 3 48 := ⟨by decide +kernel, rfl⟩
theorem d_X7_init_48 : Dc m_X7_init 48 (.aload_n 0) 1 49 := ⟨by decide +kernel, rfl⟩
theorem d_X7_init_49 : Dc m_X7_init 49 (.new 23) 3 52 := ⟨by decide +kernel, rfl⟩
theorem d_X7_init_52 : Dc m_X7_init 52 (.dup) 1 53 := ⟨by decide +kernel, rfl⟩
theorem d_X7_init_53 : Dc m_X7_init 53 (.invokespecial 25) 3 56 := ⟨by decide +kernel, rfl⟩
theorem d_X7_init_56 : Dc m_X7_init 56 (.putfield 33) 3 59 := ⟨by decide +kernel, rfl⟩
theorem d_X7_init_59 : Dc m_X7_init 59 (.aload_n 0) 1 60 := ⟨by decide +kernel, rfl⟩
theorem d_X7_init_60 : Dc m_X7_init 60 (.new 23) 3 63 := ⟨by decide +kernel, rfl⟩
theorem d_X7_init_63 : Dc m_X7_init 63 (.dup) 1 64 := ⟨by decide +kernel, rfl⟩
theorem d_X7_init_64 : Dc m_X7_init 64 (.invokespecial 25) 3 67 := ⟨by decide +kernel, rfl⟩
theorem d_X7_init_67 : Dc m_X7_init 67 (.putfield 36) 3 70 := ⟨by decide +kernel, rfl⟩
theorem d_X7_init_70 : Dc m_X7_init 70 (.aload_n 0) 1 71 := ⟨by decide +kernel, rfl⟩
theorem d_X7_init_71 : Dc m_X7_init 71 (.new 39) 3 74 := ⟨by decide +kernel, rfl⟩
theorem d_X7_init_74 : Dc m_X7_init 74 (.dup) 1 75 := ⟨by decide +kernel, rfl⟩
theorem d_X7_init_75 : Dc m_X7_init 75 (.invokespecial 41) 3 78 := ⟨by decide +kernel, rfl⟩
theorem d_X7_init_78 : Dc m_X7_init 78 (.putfield 42) 3 81 := ⟨by decide +kernel, rfl⟩
theorem d_X7_init_81 : Dc m_X7_init 81 (.aload_n 0) 1 82 := ⟨by decide +kernel, rfl⟩
theorem d_X7_init_82 : Dc m_X7_init 82 (.new 46) 3 85 := ⟨by decide +kernel, rfl⟩
theorem d_X7_init_85 : Dc m_X7_init 85 (.dup) 1 86 := ⟨by decide +kernel, rfl⟩
theorem d_X7_init_86 : Dc m_X7_init 86 (.invokespecial 48) 3 89 := ⟨by decide +kernel, rfl⟩
theorem d_X7_init_89 : Dc m_X7_init 89 (.putfield 49) 3 92 := ⟨by decide +kernel, rfl⟩
theorem d_X7_init_92 : Dc m_X7_init 92 (.aload_n 0) 1 93 := ⟨by decide +kernel, rfl⟩
theorem d_X7_init_93 : Dc m_X7_init 93 (.new 53) 3 96 := ⟨by decide +kernel, rfl⟩
theorem d_X7_init_96 : Dc m_X7_init 96 (.dup) 1 97 := ⟨by decide +kernel, rfl⟩
theorem d_X7_init_97 : Dc m_X7_init 97 (.invokespecial 55) 3 100 := ⟨by decide +kernel, rfl⟩
theorem d_X7_init_100 : Dc m_X7_init 100 (.putfield 56) 3 103 := ⟨by decide +kernel, rfl⟩
theorem d_X7_init_103 : Dc m_X7_init 103 (.aload_n 0) 1 104 := ⟨by decide +kernel, rfl⟩
theorem d_X7_init_104 : Dc m_X7_init 104 (.new 60) 3 107 := ⟨by decide +kernel, rfl⟩
theorem d_X7_init_107 : Dc m_X7_init 107 (.dup) 1 108 := ⟨by decide +kernel, rfl⟩
theorem d_X7_init_108 : Dc m_X7_init 108 (.invokespecial 62) 3 111 := ⟨by decide +kernel, rfl⟩
theorem d_X7_init_111 : Dc m_X7_init 111 (.putfield 63) 3 114 := ⟨by decide +kernel, rfl⟩
theorem d_X7_init_114 : Dc m_X7_init 114 (.return_) 1 115 := ⟨by decide +kernel, rfl⟩
theorem d_X8_init_0 : Dc m_X8_init 0 (.aload_n 0) 1 1 := ⟨by decide +kernel, rfl⟩
theorem d_X8_init_1 : Dc m_X8_init 1 (.invokespecial 1) 3 4 := ⟨by decide +kernel, rfl⟩
theorem d_X8_init_4 : Dc m_X8_init 4 (.aload_n 0) 1 5 := ⟨by decide +kernel, rfl⟩
theorem d_X8_init_5 : Dc m_X8_init 5 (.bipush 8) 2 7 := ⟨by decide +kernel, rfl⟩
theorem d_X8_init_7 : Dc m_X8_init 7 (.newarray .int) 2 9 := ⟨by decide +kernel, rfl⟩
theorem d_X8_init_9 : Dc m_X8_init 9 (.putfield 7) 3 12 := ⟨by decide +kernel, rfl⟩
theorem d_X8_init_12 : Dc m_X8_init 12 (.aload_n 0) 1 13 := ⟨by decide +kernel, rfl⟩
theorem d_X8_init_13 : Dc m_X8_init 13 (.bipush 8) 2 15 := ⟨by decide +kernel, rfl⟩
theorem d_X8_init_15 : Dc m_X8_init 15 (.newarray .int) 2 17 := ⟨by decide +kernel, rfl⟩
theorem d_X8_init_17 : Dc m_X8_init 17 (.putfield 13) 3 20 := ⟨by decide +kernel, rfl⟩
theorem d_X8_init_20 : Dc m_X8_init 20 (.aload_n 0) 1 21 := ⟨by decide +kernel, rfl⟩
theorem d_X8_init_21 : Dc m_X8_init 21 (.sipush 320) 3 24 := ⟨by decide +kernel, rfl⟩
theorem d_X8_init_24 : Dc m_X8_init 24 (.newarray .int) 2 26 := ⟨by decide +kernel, rfl⟩
theorem d_X8_init_26 : Dc m_X8_init 26 (.putfield 16) 3 29 := ⟨by decide +kernel, rfl⟩
theorem d_X8_init_29 : Dc m_X8_init 29 (.aload_n 0) 1 30 := ⟨by decide +kernel, rfl⟩
theorem d_X8_init_30 : Dc m_X8_init 30 (.bipush 100) 2 32 := ⟨by decide +kernel, rfl⟩
theorem d_X8_init_32 : Dc m_X8_init 32 (.newarray .int) 2 34 := ⟨by decide +kernel, rfl⟩
theorem d_X8_init_34 : Dc m_X8_init 34 (.putfield 19) 3 37 := ⟨by decide +kernel, rfl⟩
theorem d_X8_init_37 : Dc m_X8_init 37 (.aload_n 0) 1 38 := ⟨by decide +kernel, rfl⟩
theorem d_X8_init_38 : Dc m_X8_init 38 (.bipush 33) 2 40 := ⟨by decide +kernel, rfl⟩
theorem d_X8_init_40 : Dc m_X8_init 40 (.newarray .int) 2 42 := ⟨by decide +kernel, rfl⟩
theorem d_X8_init_42 : Dc m_X8_init 42 (.putfield 22) 3 45 := ⟨by decide +kernel, rfl⟩
theorem d_X8_init_45 : Dc m_X8_init 45 (.aload_n 0) 1 46 := ⟨by decide +kernel, rfl⟩
theorem d_X8_init_46 : Dc m_X8_init 46 (.bipush 33) 2 48 := ⟨by decide +kernel, rfl⟩
theorem d_X8_init_48 : Dc m_X8_init 48 (.newarray .int) 2 50 := ⟨by decide +kernel, rfl⟩
theorem d_X8_init_50 : Dc m_X8_init 50 (.putfield 25) 3 53 := ⟨by decide +kernel, rfl⟩
theorem d_X8_init_53 : Dc m_X8_init 53 (.aload_n 0) 1 54 := ⟨by decide +kernel, rfl⟩
theorem d_X8_init_54 : Dc m_X8_init 54 (.bipush 33) 2 56 := ⟨by decide +kernel, rfl⟩
theorem d_X8_init_56 : Dc m_X8_init 56 (.newarray .int) 2 58 := ⟨by decide +kernel, rfl⟩
theorem d_X8_init_58 : Dc m_X8_init 58 (.putfield 28) 3 61 := ⟨by decide +kernel, rfl⟩
theorem d_X8_init_61 : Dc m_X8_init 61 (.aload_n 0) 1 62 := ⟨by decide +kernel, rfl⟩
theorem d_X8_init_62 : Dc m_X8_init 62 (.bipush 66) 2 64 := ⟨by decide +kernel, rfl⟩
theorem d_X8_init_64 : Dc m_X8_init 64 (.newarray .int) 2 66 := ⟨by decide +kernel, rfl⟩
theorem d_X8_init_66 : Dc m_X8_init 66 (.putfield 31) 3 69 := ⟨by decide +kernel, rfl⟩
theorem d_X8_init_69 : Dc m_X8_init 69 (.aload_n 0) 1 70 := ⟨by decide +kernel, rfl⟩
theorem d_X8_init_70 : Dc m_X8_init 70 (.iconst 2) 1 71 := ⟨by decide +kernel, rfl⟩
theorem d_X8_init_71 : Dc m_X8_init 71 (.newarray .boolean) 2 73 := ⟨by decide +kernel, rfl⟩
theorem d_X8_init_73 : Dc m_X8_init 73 (.putfield 34) 3 76 := ⟨by decide +kernel, rfl⟩
theorem d_X8_init_76 : Dc m_X8_init 76 (.aload_n 0) 1 77 := ⟨by decide +kernel, rfl⟩
theorem d_X8_init_77 : Dc m_X8_init 77 (.sipush 792) 3 80 := ⟨by decide +kernel, rfl⟩
theorem d_X8_init_80 : Dc m_X8_init 80 (.newarray .int) 2 82 := ⟨by decide +kernel, rfl⟩
theorem d_X8_init_82 : Dc m_X8_init 82 (.putfield 38) 3 85 := ⟨by decide +kernel, rfl⟩
theorem d_X8_init_85 : Dc m_X8_init 85 (.aload_n 0) 1 86 := ⟨by decide +kernel, rfl⟩
theorem d_X8_init_86 : Dc m_X8_init 86 (.bipush 16) 2 88 := ⟨by decide +kernel, rfl⟩
theorem d_X8_init_88 : Dc m_X8_init 88 (.newarray .int) 2 90 := ⟨by decide +kernel, rfl⟩
theorem d_X8_init_90 : Dc m_X8_init 90 (.putfield 41) 3 93 := ⟨by decide +kernel, rfl⟩
theorem d_X8_init_93 : Dc m_X8_init 93 (.aload_n 0) 1 94 := ⟨by decide +kernel, rfl⟩
theorem d_X8_init_94 : Dc m_X8_init 94 (.bipush 6) 2 96 := ⟨by decide +kernel, rfl⟩
theorem d_X8_init_96 : Dc m_X8_init 96 (.newarray .int) 2 98 := ⟨by decide +kernel, rfl⟩
theorem d_X8_init_98 : Dc m_X8_init 98 (.putfield 44) 3 101 := ⟨by decide +kernel, rfl⟩
theorem d_X8_init_101 : Dc m_X8_init 101 (.aload_n 0) 1 102 := ⟨by decide +kernel, rfl⟩
theorem d_X8_init_102 : Dc m_X8_init 102 (.bipush 6) 2 104 := ⟨by decide +kernel, rfl⟩
theorem d_X8_init_104 : Dc m_X8_init 104 (.newarray .int) 2 106 := ⟨by decide +kernel, rfl⟩
theorem d_X8_init_106 : Dc m_X8_init 106 (.putfield 47) 3 109 := ⟨by decide +kernel, rfl⟩
theorem d_X8_init_109 : Dc m_X8_init 109 (.aload_n 0) 1 110 := ⟨by decide +kernel, rfl⟩
theorem d_X8_init_110 : Dc m_X8_init 110 (.bipush 6) 2 112 := ⟨by decide +kernel, rfl⟩
theorem d_X8_init_112 : Dc m_X8_init 112 (.newarray .int) 2 114 := ⟨by decide +kernel, rfl⟩
theorem d_X8_init_114 : Dc m_X8_init 114 (.putfield 50) 3 117 := ⟨by decide +kernel, rfl⟩
theorem d_X8_init_117 : Dc m_X8_init 117 (.aload_n 0) 1 118 := ⟨by decide +kernel, rfl⟩
theorem d_X8_init_118 : Dc m_X8_init 118 (.bipush 64) 2 120 := ⟨by decide +kernel, rfl⟩
theorem d_X8_init_120 : Dc m_X8_init 120 (.newarray .int) 2 122 := ⟨by decide +kernel, rfl⟩
theorem d_X8_init_122 : Dc m_X8_init 122 (.putfield 53) 3 125 := ⟨by decide +kernel, rfl⟩
theorem d_X8_init_125 : Dc m_X8_init 125 (.aload_n 0) 1 126 := ⟨by decide +kernel, rfl⟩
theorem d_X8_init_126 : Dc m_X8_init 126 (.bipush 6) 2 128 := ⟨by decide +kernel, rfl⟩
theorem d_X8_init_128 : Dc m_X8_init 128 (.newarray .int) 2 130 := ⟨by decide +kernel, rfl⟩
theorem d_X8_init_130 : Dc m_X8_init 130 (.putfield 56) 3 133 := ⟨by decide +kernel, rfl⟩
theorem d_X8_init_133 : Dc m_X8_init 133 (.iconst 0) 1 134 := ⟨by decide +kernel, rfl⟩
theorem d_X8_init_134 : Dc m_X8_init 134 (.istore_n 1) 1 135 := ⟨by decide +kernel, rfl⟩
theorem d_X8_init_135 : Dc m_X8_init 135 (.iload_n 1) 1 136 := ⟨by decide +kernel, rfl⟩
theorem d_X8_init_136 : Dc m_X8_init 136 (.bipush 8) 2 138 := ⟨by decide +kernel, rfl⟩
theorem d_X8_init_138 : Dc m_X8_init 138 (.if_icmp .ge 16) 3 141 := ⟨by decide +kernel, rfl⟩
theorem d_X8_init_141 : Dc m_X8_init 141 (.aload_n 0) 1 142 := ⟨by decide +kernel, rfl⟩
theorem d_X8_init_142 : Dc m_X8_init 142 (.getfield 7) 3 145 := ⟨by decide +kernel, rfl⟩
theorem d_X8_init_145 : Dc m_X8_init 145 (.iload_n 1) 1 146 := ⟨by decide +kernel, rfl⟩
theorem d_X8_init_146 : Dc m_X8_init 146 (.iconst (-1)) 1 147 := ⟨by decide +kernel, rfl⟩
theorem d_X8_init_147 : Dc m_X8_init 147 (.iastore) 1 148 := ⟨by decide +kernel, rfl⟩
theorem d_X8_init_148 : Dc m_X8_init 148 (.iinc 1 1) 3 151 := ⟨by decide +kernel, rfl⟩
theorem d_X8_init_151 : Dc m_X8_init 151 (.goto (-16)) 3 154 := ⟨by decide +kernel, rfl⟩
theorem d_X8_init_154 : Dc m_X8_init 154 (.return_) 1 155 := ⟨by decide +kernel, rfl⟩
/-! ===== constructors, by the kit's rows ===== -/

theorem dv_0 : ∀ j, j < 3 → defaultValue (tyX0 j) = vp_V [.null, .int 0, .int 0] j := by decide +kernel
theorem dv_1 : ∀ j, j < 6 → defaultValue (tyX1 j) = vp_V [.null, .int 0, .int 0, .int 0, .int 0, .int 0] j := by decide +kernel
theorem dv_2 : ∀ j, j < 3 → defaultValue (tyX2 j) = vp_V [.null, .null, .null] j := by decide +kernel
theorem dv_3 : ∀ j, j < 10 → defaultValue (tyX3 j) = vp_V [.null, .null, .int 0, .int 0, .int 0, .null, .int 0, .int 0, .int 0, .null] j := by decide +kernel
theorem dv_4 : ∀ j, j < 8 → defaultValue (tyX4 j) = vp_V [.null, .null, .null, .null, .int 0, .int 0, .int 0, .int 0] j := by decide +kernel
theorem dv_5 : ∀ j, j < 6 → defaultValue (tyX5 j) = vp_V [.null, .int 0, .int 0, .int 0, .int 0, .int 0] j := by decide +kernel
theorem dv_6 : ∀ j, j < 13 → defaultValue (tyX6 j) = vp_V [.int 0, .int 0, .int 0, .int 0, .int 0, .null, .null, .null, .null, .int 0, .int 0, .int 0, .int 0] j := by decide +kernel
theorem dv_7 : ∀ j, j < 11 → defaultValue (tyX7 j) = vp_V [.null, .null, .null, .null, .null, .null, .null, .null, .null, .null, .int 0] j := by decide +kernel
theorem dv_8 : ∀ j, j < 28 → defaultValue (tyX8 j) = vp_V [.null, .null, .null, .int 0, .int 0, .null, .int 0, .int 0, .int 0, .int 0, .int 0, .int 0, .null, .null, .null, .null, .null, .null, .int 0, .null, .int 0, .null, .null, .null, .int 0, .int 0, .null, .null] j := by decide +kernel
/-- a constructor's start: its cells, the classes of the arrays known, what an array of arrays needs, the nest mates' links -/
def Cw (K : (Nat → ClassId) × va_G) (w : va_W) (sz : Nat) (U : State) : Prop := U.heap.size = sz ∧ va_P K.2 vwCl w U.heap ∧ va_K K.2 vwCl [(K.1 0, .int), (K.1 1, .boolean), (K.1 2, .array .int)] U ∧ va_D (fun _ => True) w ∧ (Cond.arrayOver (.array .int)).before #[] U = true ∧ ∀ w ∈ nestW, va_Nw w U
theorem over_alike {A A' : Array Value} {u U : State} (h : u.vm.Alike U.vm) (hb : (Cond.arrayOver (.array .int)).before A u = true) : (Cond.arrayOver (.array .int)).before A' U = true := Jvm.Stand.arrayOver_alikeB h hb
theorem over_same {A A' : Array Value} {u U : State} (h : u.vm = U.vm) (hb : (Cond.arrayOver (.array .int)).before A u = true) : (Cond.arrayOver (.array .int)).before A' U = true := over_alike (by rw [h]; exact Vm.Alike.refl _) hb
theorem va_tabs_over {s U : State} (hW : s.WarmedH U.vm) (h : (Cond.arrayOver (.array .int)).before #[] s = true) : (Cond.arrayOver (.array .int)).before #[] U = true := over_alike hW.alike h
theorem c_blind {K : (Nat → ClassId) × va_G} {w : va_W} {sz : Nat} {av : List Value} : FrameBlind (va_Pc av (Cw K w sz)) := by
  intro a U g mk h
  obtain ⟨h0, h1, h2, h3, h4, h5, h6⟩ := h
  exact ⟨h0, h1, h2, va_K.moved (u := U) (U := U.calling g mk a) (Vm.Alike.refl U.vm) h3, h4, over_same (u := U) (U := U.calling g mk a) rfl h5, fun w hw => nest_same (u := U) (U := U.calling g mk a) hw rfl (h6 w hw)⟩
section CN
variable {p : Program} {l : Launch} {e : Jvm.Env} {R : Room} {s : State} {m : MethodId} {args : Array Value} {below : List Frame} {meth : Method} {c : Code} {H : Heap} {locs : List Loc} {cells slots : Nat} {Q : State → Prop}
variable {cc : ByteArray} {pc : Nat} {ls : Array Slot} {rest : List Value} {D : va_G} {cl : List vw_C} {A : Nat → Prop} {a : Nat} {tys : List (ClassId × FieldType)} {ws : va_W} {H0 : Heap}
/-- newarray, the array's class among the known -/
theorem va_newC (hexec : p.tables.exec = Jvm.exec) (hb : c.code = cc) {atype : ArrayType} (harr : (Cond.arrayClass (newarray.typeOf atype)).before args s = true) {ty : FieldType} (hty : newarray.typeOf atype = ty) (hK : va_K D cl tys s) (t0 : Nat) {cA0 : ClassId} (ht0 : tys[t0]? = some (cA0, ty)) (hP : va_P D cl ws H) (hD : va_D A ws) (hS : va_S A H0 H locs) (hA : ∀ q, H0.size ≤ q → A q)
    {n : Int32} {N' : Nat} {a0 : vp_A} (ha : ∀ cA : ClassId, vp_cell cA a0 = arrV cA N' (fun _ => defaultValue ty)) (hn : ¬ n < 0) (hN : n.toNatClampNeg = N') (hbytes : N' * componentBytes ty ≤ 536870912) (hcells : cells + 1 ≤ R.cells) (hslots : slots + N' ≤ R.slots) (hdg : decode cc pc = .ok (.newarray atype, 2))
    (kk : ∀ (q : Nat) (H1 : Heap), va_P D cl (ws ++ [(q, .inl (cA0, a0))]) H1 → va_D A (ws ++ [(q, .inl (cA0, a0))]) → va_S A H0 H1 locs →
      W p l e R s m args below meth c H1 locs (cells + 1) (slots + N') Q (F0 m (pc + 2) ls (.ref q :: rest))) : W p l e R s m args below meth c H locs cells slots Q (F0 m pc ls (.int n :: rest)) := by
  refine va_newa hexec hb harr hty hK hP hD hS hA ha hn hN hbytes hcells hslots hdg (fun q cA H1 hK1 hP1 hD1 hS1 => ?_)
  have h1 : va_RA s cA ty := (hK1.2 tys.length (cA, ty) (by simp)).2
  have h2 : va_RA s cA0 ty := (hK.2 t0 _ ht0).2
  have e : cA = cA0 := by
    cases atype <;> (subst hty; exact Option.some.inj (h1.symm.trans h2))
  subst e
  exact kk q H1 hP1 hD1 hS1
theorem mna_inner (c9 : ClassId) (M : Nat) : Jvm.Free.Multi.innerC c9 M (defaultValue .int) = vp_cell c9 (M, .inl (fun _ => 0)) := by
  rw [vp_cell_i]; exact arrV_new c9 M (.int 0)
theorem mna_outer (c9 : ClassId) (N h0 : Nat) : Jvm.Free.Multi.outerC c9 N h0 N = vp_cell c9 (N, .inr (.inr (.inr (.inr (fun i => some (h0 + 1 + i)))))) := by
  obtain ⟨f1, f2, f3⟩ := Jvm.Free.Multi.outerC_facts c9 N h0 N
  rw [vp_cell_q]
  have hsl : (Jvm.Free.Multi.outerC c9 N h0 N).slots = (arrV c9 N (fun j => va_rf (some (h0 + 1 + j)))).slots := by
    apply Array.ext
    · rw [f3, arrV_size]
    · intro i h1 h2
      have hi : i < N := by rw [f3] at h1; exact h1
      have e1 := Jvm.Free.Multi.outerC_slot c9 N h0 N i hi
      have e2 := arrV_read c9 (fun j => va_rf (some (h0 + 1 + j))) hi
      rw [if_pos hi] at e1
      have e3 := (Array.getElem?_eq_some_iff.mp e1).2
      have e4 := (Array.getElem?_eq_some_iff.mp e2).2
      rw [e3, e4]; rfl
  have key : ∀ (i : Nat), (Jvm.Free.Multi.outerC c9 N h0 i).monitor = (arrV c9 N (fun j => va_rf (some (h0 + 1 + j)))).monitor ∧ (Jvm.Free.Multi.outerC c9 N h0 i).hash = (arrV c9 N (fun j => va_rf (some (h0 + 1 + j)))).hash := by
    intro i
    induction i with
    | zero => exact ⟨rfl, rfl⟩
    | succ i ih => exact ih
  have key := key N
  generalize Jvm.Free.Multi.outerC c9 N h0 N = C at f1 f2 hsl key
  cases C
  simp only at f1 f2 hsl key
  obtain ⟨k1, k2⟩ := key
  subst f1; subst f2; subst hsl; subst k1; subst k2
  rfl
/-- new int[N][M] -/
theorem va_mnaC (hexec : p.tables.exec = Jvm.exec) (hb : c.code = cc) {own : String} {index : Nat} (hown : s.vm.findClass own = some m.cls) (hclink : (Cond.classLink own index "[[I").before args s = true) (hover : (Cond.arrayOver (.array .int)).before #[] s = true) (harr : (Cond.arrayClass .int).before args s = true)
    {K : (Nat → ClassId) × va_G} (hK : va_K K.2 cl [(K.1 0, .int), (K.1 1, .boolean), (K.1 2, .array .int)] s) (hP : va_P K.2 cl ws H) (hD : va_D A ws) (hS : va_S A H0 H locs) (hA : ∀ q, H0.size ≤ q → A q) {n k : Int32} {N M : Nat} (hn : ¬ n < 0) (hk : ¬ k < 0) (hN : n.toNatClampNeg = N) (hM : k.toNatClampNeg = M)
    (hb1 : N * 4 ≤ 536870912) (hb2 : M * componentBytes .int ≤ 536870912) (hb3 : M ≤ 536870912) (hcells : cells + (1 + N) ≤ R.cells) (hslots : slots + (N + N * M) ≤ R.slots) (hdg : decode cc pc = .ok (.multianewarray index 2, 4))
    (kk : ∀ (q : Nat) (H1 : Heap), va_P K.2 cl (ws ++ ((q, .inl (K.1 2, N, .inr (.inr (.inr (.inr (fun i => some (q + 1 + i))))))) :: (List.range N).map (fun i => (q + 1 + i, .inl (K.1 0, M, .inl (fun _ => 0)))))) H1 → va_D A (ws ++ ((q, .inl (K.1 2, N, .inr (.inr (.inr (.inr (fun i => some (q + 1 + i))))))) :: (List.range N).map (fun i => (q + 1 + i, .inl (K.1 0, M, .inl (fun _ => 0)))))) → va_S A H0 H1 locs →
      W p l e R s m args below meth c H1 locs (cells + 1 + N) (slots + N + N * M) Q (F0 m (pc + 4) ls (.ref q :: rest))) : W p l e R s m args below meth c H locs cells slots Q (F0 m pc ls (.int k :: .int n :: rest)) := by
  subst hN
  subst hM
  intro T hT Xs
  obtain ⟨vm₁, cA, comp, -, fA, fC, -, -, X', step⟩ := Xs.multianewarray2F hexec (ty := .int) hown hclink (over_same rfl hover) harr (g := F0 m pc ls (.int k :: .int n :: rest)) rfl (by rw [hb]; exact hdg) rfl hn hk hb1 hb2 hb3 rfl rfl hcells hslots
  have e1 : cA = K.1 2 := Option.some.inj (fA.symm.trans (hK.2 2 _ rfl).2)
  have e2 : comp = K.1 0 := Option.some.inj (fC.symm.trans (hK.2 0 _ rfl).2)
  subst e1; subst e2
  generalize hF : Jvm.Free.Multi.fill (T.setVm vm₁) (K.1 2) (K.1 0) n.toNatClampNeg k.toNatClampNeg (defaultValue .int) n.toNatClampNeg = F at X' step
  have hTh : (T.setVm vm₁).heap = H := hT
  obtain ⟨f1, f2, -, -⟩ := Jvm.Free.Multi.fill_facts (T.setVm vm₁) (K.1 2) (K.1 0) n.toNatClampNeg k.toNatClampNeg (defaultValue .int) n.toNatClampNeg
  rw [hF, hTh] at f1 f2
  have hold : ∀ x : Nat, x < H.size → F.heap[x]? = H[x]? := fun x hx => by
    have := Jvm.Free.Multi.fill_old (T.setVm vm₁) (K.1 2) (K.1 0) n.toNatClampNeg k.toNatClampNeg (defaultValue .int) (a := x) (by rw [hTh]; exact hx) n.toNatClampNeg
    rw [hF, hTh] at this
    exact this
  have hrow : ∀ j : Nat, j < n.toNatClampNeg → F.heap[H.size + 1 + j]? = some (vp_cell (K.1 0) (k.toNatClampNeg, .inl (fun _ => 0))) := fun j hj => by
    have := Jvm.Free.Multi.fill_inner (T.setVm vm₁) (K.1 2) (K.1 0) n.toNatClampNeg k.toNatClampNeg (defaultValue .int) n.toNatClampNeg j hj
    rw [hF, hTh, mna_inner] at this
    exact this
  rw [mna_outer] at f2
  have hlt : ∀ (k9 : Nat) (x : Nat × va_E), ws[k9]? = some x → x.1 < H.size := fun k9 x hx => (hP k9 x hx).lt
  have hP1 : va_P K.2 cl (ws ++ ((H.size, .inl (K.1 2, n.toNatClampNeg, .inr (.inr (.inr (.inr (fun i => some (H.size + 1 + i))))))) :: (List.range n.toNatClampNeg).map (fun i => (H.size + 1 + i, .inl (K.1 0, k.toNatClampNeg, .inl (fun _ => 0)))))) F.heap := by
    refine (hP.kept (fun k9 x hx => hold x.1 (hlt k9 x hx))).app (fun k9 x hx => ?_)
    rcases List.mem_cons.mp (List.mem_of_getElem? hx) with rfl | h
    · exact f2
    · obtain ⟨i, hi, rfl⟩ := List.mem_map.mp h
      exact hrow i (List.mem_range.mp hi)
  have hgrow : H.size ≤ F.heap.size := by rw [f1]; omega
  have hadr : ∀ (j : Nat) (x : Nat × va_E), ((H.size, Sum.inl (K.1 2, n.toNatClampNeg, .inr (.inr (.inr (.inr (fun i => some (H.size + 1 + i))))))) :: (List.range n.toNatClampNeg).map (fun i => (H.size + 1 + i, Sum.inl (K.1 0, k.toNatClampNeg, .inl (fun _ => 0)))) : va_W)[j]? = some x → x.1 = H.size + j := by
    intro j x hx
    cases j with
    | zero => simp only [List.getElem?_cons_zero] at hx; cases hx; rfl
    | succ j =>
      rw [List.getElem?_cons_succ, List.getElem?_map] at hx
      obtain ⟨i, hi, rfl⟩ := Option.map_eq_some_iff.mp hx
      have : i = j := by
        have h9 := (List.getElem?_eq_some_iff.mp hi)
        obtain ⟨hj, h9⟩ := h9
        rw [List.getElem_range] at h9
        exact h9.symm
      subst this
      show H.size + 1 + i = H.size + (i + 1)
      omega
  have hD1 : va_D A (ws ++ ((H.size, .inl (K.1 2, n.toNatClampNeg, .inr (.inr (.inr (.inr (fun i => some (H.size + 1 + i))))))) :: (List.range n.toNatClampNeg).map (fun i => (H.size + 1 + i, .inl (K.1 0, k.toNatClampNeg, .inl (fun _ => 0)))))) := by
    refine hD.app ⟨fun i j x y hx hy hxy => ?_, fun j x hx => ?_⟩ (fun i j x y hx hy hxy => ?_)
    · have h1 := hadr i x hx
      have h2 := hadr j y hy
      omega
    · rw [hadr j x hx]; exact hA _ (by have := hS.1; omega)
    · have h1 := hlt i x hx
      have h2 := hadr j y hy
      omega
  have hS1 : va_S A H0 F.heap locs := ⟨Nat.le_trans hS.1 hgrow, fun q h1 h2 => by rw [hold q (Nat.lt_of_lt_of_le h1 hS.1)]; exact hS.2.1 q h1 h2, hS.2.2⟩
  have hsz : T.heap.size = H.size := by rw [hT]
  rw [hsz] at step
  obtain ⟨t, a1, b1⟩ := kk H.size F.heap hP1 hD1 hS1 F rfl X'
  exact ⟨t, step t a1, b1⟩
end CN
def fill8 (f : Nat → Int32) (v : Int32) : Nat → Int32 := upd (upd (upd (upd (upd (upd (upd (upd f (0 : Int32).toNatClampNeg v) (1 : Int32).toNatClampNeg v) (2 : Int32).toNatClampNeg v) (3 : Int32).toNatClampNeg v) (4 : Int32).toNatClampNeg v) (5 : Int32).toNatClampNeg v) (6 : Int32).toNatClampNeg v) (7 : Int32).toNatClampNeg v
set_option maxHeartbeats 8000000 in
set_option maxRecDepth 100000 in
theorem c_fill8 (l : Launch) (K : (Nat → ClassId) × va_G) (h0 sz : Nat) (f : Nat → Int32) (v : Int32) : Met l yJ7_fill_53178 (mW m_J7_fill_53178) ({ frames := 0, cells := 0, slots := 0, locals := 0 }) (va_Pc [.ref h0, .int v] (Cw K [(h0, .inl (K.1 0, 8, .inl f))] sz)) (va_Qv (fun _ : Unit => True) (fun _ t => va_P K.2 vwCl [(h0, .inl (K.1 0, 8, .inl (fill8 f v)))] t.heap ∧ va_D (va_A [(h0, .inl (K.1 0, 8, .inl f))] sz) [(h0, .inl (K.1 0, 8, .inl (fill8 f v)))]) (va_A [(h0, .inl (K.1 0, 8, .inl f))] sz)) 0 0 (va_A [(h0, .inl (K.1 0, 8, .inl f))] sz) := by
  refine Met.ofW (cc := cJ7_fill_53178) (maxL := 4) (ret := none) (by decide) rfl ?_
  intro p e s m args below meth c s₁ B hml hv
  obtain ⟨rfl, hsz, hP, hK, hD0, hover, hnw⟩ := hv
  have hx := B.exec
  have hb := B.bytes
  have hr := B.returns
  have hlocks := B.notSynchronized
  subst hsz
  have hD := hD0.self (sz := s.heap.size)
  generalize hAe : va_A [(h0, .inl (K.1 0, 8, .inl f))] s.heap.size = A at hD ⊢
  have hA : ∀ q : Nat, s.heap.size ≤ q → A q := fun q h => by rw [← hAe]; exact Or.inr h
  have hS : va_S A s.heap s.heap [] := va_S.rf
  have hl := lv_entry ([.ref h0, .int v]) (n := 4) (Nat.le_of_ble_eq_true rfl)
  rw [lg_entry_eq]
  generalize (lg_sl ([.ref h0, .int v]) ++ List.replicate (4 - (lg_sl ([.ref h0, .int v])).length) Slot.unset).toArray = ls at hl ⊢
  have hl : lv_has ls 4 [(0, .ref h0), (1, .int v)] := hl
  refine lv_iconst (v := 0) hx hb d_J7_fill_53178_0.1 (by decide) ?_
  refine lv_istore_n (lv' := [(2, .int 0), (0, .ref h0), (1, .int v)]) hx hb d_J7_fill_53178_1.1 rfl hl (by decide) rfl (fun ls hl => ?_)
  refine lv_aload_n hx hb d_J7_fill_53178_2.1 rfl (lv_at hl 1 rfl) ?_
  refine va_alen (v := 8) hx hb hK hP 0 0 rfl rfl rfl d_J7_fill_53178_3.1 ?_
  refine lv_istore_n (lv' := [(3, .int 8), (2, .int 0), (0, .ref h0), (1, .int v)]) hx hb d_J7_fill_53178_4.1 rfl hl (by decide) rfl (fun ls hl => ?_)
  refine lv_iload_n hx hb d_J7_fill_53178_5.1 rfl (lv_at hl 1 rfl) ?_
  refine lv_iload_n hx hb d_J7_fill_53178_6.1 rfl (lv_at hl 0 rfl) ?_
  refine lv_icmp_ge (tgt := 20) hx hb d_J7_fill_53178_7.1 (by decide) (fun h => absurd h (by decide)) (fun _ => ?_)
  refine lv_aload_n hx hb d_J7_fill_53178_10.1 rfl (lv_at hl 2 rfl) ?_
  refine lv_iload_n hx hb d_J7_fill_53178_11.1 rfl (lv_at hl 1 rfl) ?_
  refine lv_iload_n hx hb d_J7_fill_53178_12.1 rfl (lv_at hl 3 rfl) ?_
  refine va_iast hx hb hK hP hD hS 0 0 rfl rfl (inB_in rfl) d_J7_fill_53178_13.1 (fun H locs hP hD hS => ?_)
  have hP : va_P K.2 vwCl [(h0, .inl (K.1 0, 8, .inl (upd f (0 : Int32).toNatClampNeg v)))] H := hP
  have hD : va_D A [(h0, .inl (K.1 0, 8, .inl (upd f (0 : Int32).toNatClampNeg v)))] := hD
  refine lv_iinc (v := 1) (lv' := [(2, .int 1), (3, .int 8), (0, .ref h0), (1, .int v)]) hx hb d_J7_fill_53178_14.1 hl (k := 1) rfl (by decide) (by decide) rfl (fun ls hl => ?_)
  refine lv_goto (tgt := 5) hx hb d_J7_fill_53178_17.1 (by decide) ?_
  refine lv_iload_n hx hb d_J7_fill_53178_5.1 rfl (lv_at hl 0 rfl) ?_
  refine lv_iload_n hx hb d_J7_fill_53178_6.1 rfl (lv_at hl 1 rfl) ?_
  refine lv_icmp_ge (tgt := 20) hx hb d_J7_fill_53178_7.1 (by decide) (fun h => absurd h (by decide)) (fun _ => ?_)
  refine lv_aload_n hx hb d_J7_fill_53178_10.1 rfl (lv_at hl 2 rfl) ?_
  refine lv_iload_n hx hb d_J7_fill_53178_11.1 rfl (lv_at hl 0 rfl) ?_
  refine lv_iload_n hx hb d_J7_fill_53178_12.1 rfl (lv_at hl 3 rfl) ?_
  refine va_iast hx hb hK hP hD hS 0 0 rfl rfl (inB_in rfl) d_J7_fill_53178_13.1 (fun H locs hP hD hS => ?_)
  have hP : va_P K.2 vwCl [(h0, .inl (K.1 0, 8, .inl (upd (upd f (0 : Int32).toNatClampNeg v) (1 : Int32).toNatClampNeg v)))] H := hP
  have hD : va_D A [(h0, .inl (K.1 0, 8, .inl (upd (upd f (0 : Int32).toNatClampNeg v) (1 : Int32).toNatClampNeg v)))] := hD
  refine lv_iinc (v := 2) (lv' := [(2, .int 2), (3, .int 8), (0, .ref h0), (1, .int v)]) hx hb d_J7_fill_53178_14.1 hl (k := 0) rfl (by decide) (by decide) rfl (fun ls hl => ?_)
  refine lv_goto (tgt := 5) hx hb d_J7_fill_53178_17.1 (by decide) ?_
  refine lv_iload_n hx hb d_J7_fill_53178_5.1 rfl (lv_at hl 0 rfl) ?_
  refine lv_iload_n hx hb d_J7_fill_53178_6.1 rfl (lv_at hl 1 rfl) ?_
  refine lv_icmp_ge (tgt := 20) hx hb d_J7_fill_53178_7.1 (by decide) (fun h => absurd h (by decide)) (fun _ => ?_)
  refine lv_aload_n hx hb d_J7_fill_53178_10.1 rfl (lv_at hl 2 rfl) ?_
  refine lv_iload_n hx hb d_J7_fill_53178_11.1 rfl (lv_at hl 0 rfl) ?_
  refine lv_iload_n hx hb d_J7_fill_53178_12.1 rfl (lv_at hl 3 rfl) ?_
  refine va_iast hx hb hK hP hD hS 0 0 rfl rfl (inB_in rfl) d_J7_fill_53178_13.1 (fun H locs hP hD hS => ?_)
  have hP : va_P K.2 vwCl [(h0, .inl (K.1 0, 8, .inl (upd (upd (upd f (0 : Int32).toNatClampNeg v) (1 : Int32).toNatClampNeg v) (2 : Int32).toNatClampNeg v)))] H := hP
  have hD : va_D A [(h0, .inl (K.1 0, 8, .inl (upd (upd (upd f (0 : Int32).toNatClampNeg v) (1 : Int32).toNatClampNeg v) (2 : Int32).toNatClampNeg v)))] := hD
  refine lv_iinc (v := 3) (lv' := [(2, .int 3), (3, .int 8), (0, .ref h0), (1, .int v)]) hx hb d_J7_fill_53178_14.1 hl (k := 0) rfl (by decide) (by decide) rfl (fun ls hl => ?_)
  refine lv_goto (tgt := 5) hx hb d_J7_fill_53178_17.1 (by decide) ?_
  refine lv_iload_n hx hb d_J7_fill_53178_5.1 rfl (lv_at hl 0 rfl) ?_
  refine lv_iload_n hx hb d_J7_fill_53178_6.1 rfl (lv_at hl 1 rfl) ?_
  refine lv_icmp_ge (tgt := 20) hx hb d_J7_fill_53178_7.1 (by decide) (fun h => absurd h (by decide)) (fun _ => ?_)
  refine lv_aload_n hx hb d_J7_fill_53178_10.1 rfl (lv_at hl 2 rfl) ?_
  refine lv_iload_n hx hb d_J7_fill_53178_11.1 rfl (lv_at hl 0 rfl) ?_
  refine lv_iload_n hx hb d_J7_fill_53178_12.1 rfl (lv_at hl 3 rfl) ?_
  refine va_iast hx hb hK hP hD hS 0 0 rfl rfl (inB_in rfl) d_J7_fill_53178_13.1 (fun H locs hP hD hS => ?_)
  have hP : va_P K.2 vwCl [(h0, .inl (K.1 0, 8, .inl (upd (upd (upd (upd f (0 : Int32).toNatClampNeg v) (1 : Int32).toNatClampNeg v) (2 : Int32).toNatClampNeg v) (3 : Int32).toNatClampNeg v)))] H := hP
  have hD : va_D A [(h0, .inl (K.1 0, 8, .inl (upd (upd (upd (upd f (0 : Int32).toNatClampNeg v) (1 : Int32).toNatClampNeg v) (2 : Int32).toNatClampNeg v) (3 : Int32).toNatClampNeg v)))] := hD
  refine lv_iinc (v := 4) (lv' := [(2, .int 4), (3, .int 8), (0, .ref h0), (1, .int v)]) hx hb d_J7_fill_53178_14.1 hl (k := 0) rfl (by decide) (by decide) rfl (fun ls hl => ?_)
  refine lv_goto (tgt := 5) hx hb d_J7_fill_53178_17.1 (by decide) ?_
  refine lv_iload_n hx hb d_J7_fill_53178_5.1 rfl (lv_at hl 0 rfl) ?_
  refine lv_iload_n hx hb d_J7_fill_53178_6.1 rfl (lv_at hl 1 rfl) ?_
  refine lv_icmp_ge (tgt := 20) hx hb d_J7_fill_53178_7.1 (by decide) (fun h => absurd h (by decide)) (fun _ => ?_)
  refine lv_aload_n hx hb d_J7_fill_53178_10.1 rfl (lv_at hl 2 rfl) ?_
  refine lv_iload_n hx hb d_J7_fill_53178_11.1 rfl (lv_at hl 0 rfl) ?_
  refine lv_iload_n hx hb d_J7_fill_53178_12.1 rfl (lv_at hl 3 rfl) ?_
  refine va_iast hx hb hK hP hD hS 0 0 rfl rfl (inB_in rfl) d_J7_fill_53178_13.1 (fun H locs hP hD hS => ?_)
  have hP : va_P K.2 vwCl [(h0, .inl (K.1 0, 8, .inl (upd (upd (upd (upd (upd f (0 : Int32).toNatClampNeg v) (1 : Int32).toNatClampNeg v) (2 : Int32).toNatClampNeg v) (3 : Int32).toNatClampNeg v) (4 : Int32).toNatClampNeg v)))] H := hP
  have hD : va_D A [(h0, .inl (K.1 0, 8, .inl (upd (upd (upd (upd (upd f (0 : Int32).toNatClampNeg v) (1 : Int32).toNatClampNeg v) (2 : Int32).toNatClampNeg v) (3 : Int32).toNatClampNeg v) (4 : Int32).toNatClampNeg v)))] := hD
  refine lv_iinc (v := 5) (lv' := [(2, .int 5), (3, .int 8), (0, .ref h0), (1, .int v)]) hx hb d_J7_fill_53178_14.1 hl (k := 0) rfl (by decide) (by decide) rfl (fun ls hl => ?_)
  refine lv_goto (tgt := 5) hx hb d_J7_fill_53178_17.1 (by decide) ?_
  refine lv_iload_n hx hb d_J7_fill_53178_5.1 rfl (lv_at hl 0 rfl) ?_
  refine lv_iload_n hx hb d_J7_fill_53178_6.1 rfl (lv_at hl 1 rfl) ?_
  refine lv_icmp_ge (tgt := 20) hx hb d_J7_fill_53178_7.1 (by decide) (fun h => absurd h (by decide)) (fun _ => ?_)
  refine lv_aload_n hx hb d_J7_fill_53178_10.1 rfl (lv_at hl 2 rfl) ?_
  refine lv_iload_n hx hb d_J7_fill_53178_11.1 rfl (lv_at hl 0 rfl) ?_
  refine lv_iload_n hx hb d_J7_fill_53178_12.1 rfl (lv_at hl 3 rfl) ?_
  refine va_iast hx hb hK hP hD hS 0 0 rfl rfl (inB_in rfl) d_J7_fill_53178_13.1 (fun H locs hP hD hS => ?_)
  have hP : va_P K.2 vwCl [(h0, .inl (K.1 0, 8, .inl (upd (upd (upd (upd (upd (upd f (0 : Int32).toNatClampNeg v) (1 : Int32).toNatClampNeg v) (2 : Int32).toNatClampNeg v) (3 : Int32).toNatClampNeg v) (4 : Int32).toNatClampNeg v) (5 : Int32).toNatClampNeg v)))] H := hP
  have hD : va_D A [(h0, .inl (K.1 0, 8, .inl (upd (upd (upd (upd (upd (upd f (0 : Int32).toNatClampNeg v) (1 : Int32).toNatClampNeg v) (2 : Int32).toNatClampNeg v) (3 : Int32).toNatClampNeg v) (4 : Int32).toNatClampNeg v) (5 : Int32).toNatClampNeg v)))] := hD
  refine lv_iinc (v := 6) (lv' := [(2, .int 6), (3, .int 8), (0, .ref h0), (1, .int v)]) hx hb d_J7_fill_53178_14.1 hl (k := 0) rfl (by decide) (by decide) rfl (fun ls hl => ?_)
  refine lv_goto (tgt := 5) hx hb d_J7_fill_53178_17.1 (by decide) ?_
  refine lv_iload_n hx hb d_J7_fill_53178_5.1 rfl (lv_at hl 0 rfl) ?_
  refine lv_iload_n hx hb d_J7_fill_53178_6.1 rfl (lv_at hl 1 rfl) ?_
  refine lv_icmp_ge (tgt := 20) hx hb d_J7_fill_53178_7.1 (by decide) (fun h => absurd h (by decide)) (fun _ => ?_)
  refine lv_aload_n hx hb d_J7_fill_53178_10.1 rfl (lv_at hl 2 rfl) ?_
  refine lv_iload_n hx hb d_J7_fill_53178_11.1 rfl (lv_at hl 0 rfl) ?_
  refine lv_iload_n hx hb d_J7_fill_53178_12.1 rfl (lv_at hl 3 rfl) ?_
  refine va_iast hx hb hK hP hD hS 0 0 rfl rfl (inB_in rfl) d_J7_fill_53178_13.1 (fun H locs hP hD hS => ?_)
  have hP : va_P K.2 vwCl [(h0, .inl (K.1 0, 8, .inl (upd (upd (upd (upd (upd (upd (upd f (0 : Int32).toNatClampNeg v) (1 : Int32).toNatClampNeg v) (2 : Int32).toNatClampNeg v) (3 : Int32).toNatClampNeg v) (4 : Int32).toNatClampNeg v) (5 : Int32).toNatClampNeg v) (6 : Int32).toNatClampNeg v)))] H := hP
  have hD : va_D A [(h0, .inl (K.1 0, 8, .inl (upd (upd (upd (upd (upd (upd (upd f (0 : Int32).toNatClampNeg v) (1 : Int32).toNatClampNeg v) (2 : Int32).toNatClampNeg v) (3 : Int32).toNatClampNeg v) (4 : Int32).toNatClampNeg v) (5 : Int32).toNatClampNeg v) (6 : Int32).toNatClampNeg v)))] := hD
  refine lv_iinc (v := 7) (lv' := [(2, .int 7), (3, .int 8), (0, .ref h0), (1, .int v)]) hx hb d_J7_fill_53178_14.1 hl (k := 0) rfl (by decide) (by decide) rfl (fun ls hl => ?_)
  refine lv_goto (tgt := 5) hx hb d_J7_fill_53178_17.1 (by decide) ?_
  refine lv_iload_n hx hb d_J7_fill_53178_5.1 rfl (lv_at hl 0 rfl) ?_
  refine lv_iload_n hx hb d_J7_fill_53178_6.1 rfl (lv_at hl 1 rfl) ?_
  refine lv_icmp_ge (tgt := 20) hx hb d_J7_fill_53178_7.1 (by decide) (fun h => absurd h (by decide)) (fun _ => ?_)
  refine lv_aload_n hx hb d_J7_fill_53178_10.1 rfl (lv_at hl 2 rfl) ?_
  refine lv_iload_n hx hb d_J7_fill_53178_11.1 rfl (lv_at hl 0 rfl) ?_
  refine lv_iload_n hx hb d_J7_fill_53178_12.1 rfl (lv_at hl 3 rfl) ?_
  refine va_iast hx hb hK hP hD hS 0 0 rfl rfl (inB_in rfl) d_J7_fill_53178_13.1 (fun H locs hP hD hS => ?_)
  have hP : va_P K.2 vwCl [(h0, .inl (K.1 0, 8, .inl (upd (upd (upd (upd (upd (upd (upd (upd f (0 : Int32).toNatClampNeg v) (1 : Int32).toNatClampNeg v) (2 : Int32).toNatClampNeg v) (3 : Int32).toNatClampNeg v) (4 : Int32).toNatClampNeg v) (5 : Int32).toNatClampNeg v) (6 : Int32).toNatClampNeg v) (7 : Int32).toNatClampNeg v)))] H := hP
  have hD : va_D A [(h0, .inl (K.1 0, 8, .inl (upd (upd (upd (upd (upd (upd (upd (upd f (0 : Int32).toNatClampNeg v) (1 : Int32).toNatClampNeg v) (2 : Int32).toNatClampNeg v) (3 : Int32).toNatClampNeg v) (4 : Int32).toNatClampNeg v) (5 : Int32).toNatClampNeg v) (6 : Int32).toNatClampNeg v) (7 : Int32).toNatClampNeg v)))] := hD
  refine lv_iinc (v := 8) (lv' := [(2, .int 8), (3, .int 8), (0, .ref h0), (1, .int v)]) hx hb d_J7_fill_53178_14.1 hl (k := 0) rfl (by decide) (by decide) rfl (fun ls hl => ?_)
  refine lv_goto (tgt := 5) hx hb d_J7_fill_53178_17.1 (by decide) ?_
  refine lv_iload_n hx hb d_J7_fill_53178_5.1 rfl (lv_at hl 0 rfl) ?_
  refine lv_iload_n hx hb d_J7_fill_53178_6.1 rfl (lv_at hl 1 rfl) ?_
  refine lv_icmp_ge (tgt := 20) hx hb d_J7_fill_53178_7.1 (by decide) (fun _ => ?_) (fun h => absurd (by decide) h)
  exact W.vret hx hb hr (fun t ht hW => ⟨⟨(), rfl, trivial, by rw [ht]; exact hP, hD⟩, hS.F ht⟩) hS.2.2 d_J7_fill_53178_20.1
