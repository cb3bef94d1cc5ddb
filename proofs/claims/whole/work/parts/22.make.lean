theorem dX0_init_0 : DD cX0_init 0 (.aload_n 0) 1 1 := by decide +kernel
theorem dX0_init_1 : DD cX0_init 1 (.invokespecial 3) 3 4 := by decide +kernel
theorem dX0_init_4 : DD cX0_init 4 (.aload_n 0) 1 5 := by decide +kernel
theorem dX0_init_5 : DD cX0_init 5 (.bipush 24) 2 7 := by decide +kernel
theorem dX0_init_7 : DD cX0_init 7 (.anewarray 9) 3 10 := by decide +kernel
theorem dX0_init_10 : DD cX0_init 10 (.putfield 11) 3 13 := by decide +kernel
theorem dX0_init_13 : DD cX0_init 13 (.iconst 0) 1 14 := by decide +kernel
theorem dX0_init_14 : DD cX0_init 14 (.istore_n 1) 1 15 := by decide +kernel
theorem dX0_init_15 : DD cX0_init 15 (.iload_n 1) 1 16 := by decide +kernel
theorem dX0_init_16 : DD cX0_init 16 (.bipush 24) 2 18 := by decide +kernel
theorem dX0_init_18 : DD cX0_init 18 (.if_icmp .ge 22) 3 21 := by decide +kernel
theorem dX0_init_21 : DD cX0_init 21 (.aload_n 0) 1 22 := by decide +kernel
theorem dX0_init_22 : DD cX0_init 22 (.getfield 11) 3 25 := by decide +kernel
theorem dX0_init_25 : DD cX0_init 25 (.iload_n 1) 1 26 := by decide +kernel
theorem dX0_init_26 : DD cX0_init 26 (.new 9) 3 29 := by decide +kernel
theorem dX0_init_29 : DD cX0_init 29 (.dup) 1 30 := by decide +kernel
theorem dX0_init_30 : DD cX0_init 30 (.invokespecial 17) 3 33 := by decide +kernel
theorem dX0_init_33 : DD cX0_init 33 (.aastore) 1 34 := by decide +kernel
theorem dX0_init_34 : DD cX0_init 34 (.iinc 1 1) 3 37 := by decide +kernel
theorem dX0_init_37 : DD cX0_init 37 (.goto (-22)) 3 40 := by decide +kernel
theorem dX0_init_40 : DD cX0_init 40 (.return_) 1 41 := by decide +kernel
theorem dX1_init_0 : DD cX1_init 0 (.aload_n 0) 1 1 := by decide +kernel
theorem dX1_init_1 : DD cX1_init 1 (.invokespecial 3) 3 4 := by decide +kernel
theorem dX1_init_4 : DD cX1_init 4 (.aload_n 0) 1 5 := by decide +kernel
theorem dX1_init_5 : DD cX1_init 5 (.bipush 16) 2 7 := by decide +kernel
theorem dX1_init_7 : DD cX1_init 7 (.newarray .int) 2 9 := by decide +kernel
theorem dX1_init_9 : DD cX1_init 9 (.putfield 9) 3 12 := by decide +kernel
theorem dX1_init_12 : DD cX1_init 12 (.return_) 1 13 := by decide +kernel
theorem dX2_init_0 : DD cX2_init 0 (.aload_n 0) 1 1 := by decide +kernel
theorem dX2_init_1 : DD cX2_init 1 (.invokespecial 3) 3 4 := by decide +kernel
theorem dX2_init_4 : DD cX2_init 4 (.aload_n 0) 1 5 := by decide +kernel
theorem dX2_init_5 : DD cX2_init 5 (.bipush 6) 2 7 := by decide +kernel
theorem dX2_init_7 : DD cX2_init 7 (.newarray .int) 2 9 := by decide +kernel
theorem dX2_init_9 : DD cX2_init 9 (.putfield 9) 3 12 := by decide +kernel
theorem dX2_init_12 : DD cX2_init 12 (.aload_n 0) 1 13 := by decide +kernel
theorem dX2_init_13 : DD cX2_init 13 (.bipush 6) 2 15 := by decide +kernel
theorem dX2_init_15 : DD cX2_init 15 (.newarray .int) 2 17 := by decide +kernel
theorem dX2_init_17 : DD cX2_init 17 (.putfield 15) 3 20 := by decide +kernel
theorem dX2_init_20 : DD cX2_init 20 (.aload_n 0) 1 21 := by decide +kernel
theorem dX2_init_21 : DD cX2_init 21 (.bipush 6) 2 23 := by decide +kernel
theorem dX2_init_23 : DD cX2_init 23 (.newarray .int) 2 25 := by decide +kernel
theorem dX2_init_25 : DD cX2_init 25 (.putfield 18) 3 28 := by decide +kernel
theorem dX2_init_28 : DD cX2_init 28 (.aload_n 0) 1 29 := by decide +kernel
theorem dX2_init_29 : DD cX2_init 29 (.bipush 6) 2 31 := by decide +kernel
theorem dX2_init_31 : DD cX2_init 31 (.newarray .int) 2 33 := by decide +kernel
theorem dX2_init_33 : DD cX2_init 33 (.putfield 21) 3 36 := by decide +kernel
theorem dX2_init_36 : DD cX2_init 36 (.aload_n 0) 1 37 := by decide +kernel
theorem dX2_init_37 : DD cX2_init 37 (.iconst 4) 1 38 := by decide +kernel
theorem dX2_init_38 : DD cX2_init 38 (.newarray .int) 2 40 := by decide +kernel
theorem dX2_init_40 : DD cX2_init 40 (.putfield 24) 3 43 := by decide +kernel
theorem dX2_init_43 : DD cX2_init 43 (.aload_n 0) 1 44 := by decide +kernel
theorem dX2_init_44 : DD cX2_init 44 (.iconst 4) 1 45 := by decide +kernel
theorem dX2_init_45 : DD cX2_init 45 (.newarray .int) 2 47 := by decide +kernel
theorem dX2_init_47 : DD cX2_init 47 (.putfield 27) 3 50 := by decide +kernel
theorem dX2_init_50 : DD cX2_init 50 (.return_) 1 51 := by decide +kernel
theorem dX3_init_0 : DD cX3_init 0 (.aload_n 0) 1 1 := by decide +kernel
theorem dX3_init_1 : DD cX3_init 1 (.invokespecial 3) 3 4 := by decide +kernel
theorem dX3_init_4 : DD cX3_init 4 (.aload_n 0) 1 5 := by decide +kernel
theorem dX3_init_5 : DD cX3_init 5 (.bipush 40) 2 7 := by decide +kernel
theorem dX3_init_7 : DD cX3_init 7 (.newarray .int) 2 9 := by decide +kernel
theorem dX3_init_9 : DD cX3_init 9 (.putfield 9) 3 12 := by decide +kernel
theorem dX3_init_12 : DD cX3_init 12 (.aload_n 0) 1 13 := by decide +kernel
theorem dX3_init_13 : DD cX3_init 13 (.iconst (-1)) 1 14 := by decide +kernel
theorem dX3_init_14 : DD cX3_init 14 (.putfield 15) 3 17 := by decide +kernel
theorem dX3_init_17 : DD cX3_init 17 (.return_) 1 18 := by decide +kernel
theorem dX4_init_0 : DD cX4_init 0 (.aload_n 0) 1 1 := by decide +kernel
theorem dX4_init_1 : DD cX4_init 1 (.invokespecial 3) 3 4 := by decide +kernel
theorem dX4_init_4 : DD cX4_init 4 (.aload_n 0) 1 5 := by decide +kernel
theorem dX4_init_5 : DD cX4_init 5 (.bipush 90) 2 7 := by decide +kernel
theorem dX4_init_7 : DD cX4_init 7 (.newarray .int) 2 9 := by decide +kernel
theorem dX4_init_9 : DD cX4_init 9 (.putfield 9) 3 12 := by decide +kernel
theorem dX4_init_12 : DD cX4_init 12 (.return_) 1 13 := by decide +kernel
theorem dX5_init_0 : DD cX5_init 0 (.aload_n 0) 1 1 := by decide +kernel
theorem dX5_init_1 : DD cX5_init 1 (.invokespecial 1) 3 4 := by decide +kernel
theorem dX5_init_4 : DD cX5_init 4 (.aload_n 0) 1 5 := by decide +kernel
theorem dX5_init_5 : DD cX5_init 5 (.bipush 8) 2 7 := by decide +kernel
theorem dX5_init_7 : DD cX5_init 7 (.anewarray 9) 3 10 := by decide +kernel
theorem dX5_init_10 : DD cX5_init 10 (.putfield 11) 3 13 := by decide +kernel
theorem dX5_init_13 : DD cX5_init 13 (.iconst 0) 1 14 := by decide +kernel
theorem dX5_init_14 : DD cX5_init 14 (.istore_n 1) 1 15 := by decide +kernel
theorem dX5_init_15 : DD cX5_init 15 (.iload_n 1) 1 16 := by decide +kernel
theorem dX5_init_16 : DD cX5_init 16 (.bipush 8) 2 18 := by decide +kernel
theorem dX5_init_18 : DD cX5_init 18 (.if_icmp .ge 22) 3 21 := by decide +kernel
theorem dX5_init_21 : DD cX5_init 21 (.aload_n 0) 1 22 := by decide +kernel
theorem dX5_init_22 : DD cX5_init 22 (.getfield 11) 3 25 := by decide +kernel
theorem dX5_init_25 : DD cX5_init 25 (.iload_n 1) 1 26 := by decide +kernel
theorem dX5_init_26 : DD cX5_init 26 (.new 9) 3 29 := by decide +kernel
theorem dX5_init_29 : DD cX5_init 29 (.dup) 1 30 := by decide +kernel
theorem dX5_init_30 : DD cX5_init 30 (.invokespecial 15) 3 33 := by decide +kernel
theorem dX5_init_33 : DD cX5_init 33 (.aastore) 1 34 := by decide +kernel
theorem dX5_init_34 : DD cX5_init 34 (.iinc 1 1) 3 37 := by decide +kernel
theorem dX5_init_37 : DD cX5_init 37 (.goto (-22)) 3 40 := by decide +kernel
theorem dX5_init_40 : DD cX5_init 40 (.aload_n 0) 1 41 := by decide +kernel
theorem dX5_init_41 : DD cX5_init 41 (.new 16) 3 44 := by decide +kernel
theorem dX5_init_44 : DD cX5_init 44 (.dup) 1 45 := by decide +kernel
theorem dX5_init_45 : DD cX5_init 45 (.invokespecial 18) 3 48 := by decide +kernel
theorem dX5_init_48 : DD cX5_init 48 (.putfield 19) 3 51 := by decide +kernel
theorem dX5_init_51 : DD cX5_init 51 (.aload_n 0) 1 52 := by decide +kernel
theorem dX5_init_52 : DD cX5_init 52 (.new 23) 3 55 := by decide +kernel
theorem dX5_init_55 : DD cX5_init 55 (.dup) 1 56 := by decide +kernel
theorem dX5_init_56 : DD cX5_init 56 (.invokespecial 25) 3 59 := by decide +kernel
theorem dX5_init_59 : DD cX5_init 59 (.putfield 26) 3 62 := by decide +kernel
theorem dX5_init_62 : DD cX5_init 62 (.aload_n 0) 1 63 := by decide +kernel
theorem dX5_init_63 : DD cX5_init 63 (.new 30) 3 66 := by decide +kernel
theorem dX5_init_66 : DD cX5_init 66 (.dup) 1 67 := by decide +kernel
theorem dX5_init_67 : DD cX5_init 67 (.invokespecial 32) 3 70 := by decide +kernel
theorem dX5_init_70 : DD cX5_init 70 (.putfield 33) 3 73 := by decide +kernel
theorem dX5_init_73 : DD cX5_init 73 (.aload_n 0) 1 74 := by decide +kernel
theorem dX5_init_74 : DD cX5_init 74 (.iconst 2) 1 75 := by decide +kernel
theorem dX5_init_75 : DD cX5_init 75 (.anewarray 23) 3 78 := by decide +kernel
theorem dX5_init_78 : DD cX5_init 78 (.putfield 37) 3 81 := by decide +kernel
theorem dX5_init_81 : DD cX5_init 81 (.iconst 0) 1 82 := by decide +kernel
theorem dX5_init_82 : DD cX5_init 82 (.istore_n 1) 1 83 := by decide +kernel
theorem dX5_init_83 : DD cX5_init 83 (.iload_n 1) 1 84 := by decide +kernel
theorem dX5_init_84 : DD cX5_init 84 (.iconst 2) 1 85 := by decide +kernel
theorem dX5_init_85 : DD cX5_init 85 (.if_icmp .ge 22) 3 88 := by decide +kernel
theorem dX5_init_88 : DD cX5_init 88 (.aload_n 0) 1 89 := by decide +kernel
theorem dX5_init_89 : DD cX5_init 89 (.getfield 37) 3 92 := by decide +kernel
theorem dX5_init_92 : DD cX5_init 92 (.iload_n 1) 1 93 := by decide +kernel
theorem dX5_init_93 : DD cX5_init 93 (.new 23) 3 96 := by decide +kernel
theorem dX5_init_96 : DD cX5_init 96 (.dup) 1 97 := by decide +kernel
theorem dX5_init_97 : DD cX5_init 97 (.invokespecial 25) 3 100 := by decide +kernel
theorem dX5_init_100 : DD cX5_init 100 (.aastore) 1 101 := by decide +kernel
theorem dX5_init_101 : DD cX5_init 101 (.iinc 1 1) 3 104 := by decide +kernel
theorem dX5_init_104 : DD cX5_init 104 (.goto (-21)) 3 107 := by decide +kernel
theorem dX5_init_107 : DD cX5_init 107 (.aload_n 0) 1 108 := by decide +kernel
theorem dX5_init_108 : DD cX5_init 108 (.bipush 9) 2 110 := by decide +kernel
theorem dX5_init_110 : DD cX5_init 110 (.anewarray 23) 3 113 := by decide +kernel
theorem dX5_init_113 : DD cX5_init 113 (.putfield 41) 3 116 := by decide +kernel
theorem dX5_init_116 : DD cX5_init 116 (.iconst 0) 1 117 := by decide +kernel
theorem dX5_init_117 : DD cX5_init 117 (.istore_n 1) 1 118 := by decide +kernel
theorem dX5_init_118 : DD cX5_init 118 (.iload_n 1) 1 119 := by decide +kernel
theorem dX5_init_119 : DD cX5_init 119 (.bipush 8) 2 121 := by decide +kernel
theorem dX5_init_121 : DD cX5_init 121 (.if_icmp .gt 22) 3 124 := by decide +kernel
theorem dX5_init_124 : DD cX5_init 124 (.aload_n 0) 1 125 := by decide +kernel
theorem dX5_init_125 : DD cX5_init 125 (.getfield 41) 3 128 := by decide +kernel
theorem dX5_init_128 : DD cX5_init 128 (.iload_n 1) 1 129 := by decide +kernel
theorem dX5_init_129 : DD cX5_init 129 (.new 23) 3 132 := by decide +kernel
theorem dX5_init_132 : DD cX5_init 132 (.dup) 1 133 := by decide +kernel
theorem dX5_init_133 : DD cX5_init 133 (.invokespecial 25) 3 136 := by decide +kernel
theorem dX5_init_136 : DD cX5_init 136 (.aastore) 1 137 := by decide +kernel
theorem dX5_init_137 : DD cX5_init 137 (.iinc 1 1) 3 140 := by decide +kernel
theorem dX5_init_140 : DD cX5_init 140 (.goto (-22)) 3 143 := by decide +kernel
theorem dX5_init_143 : DD cX5_init 143 (.aload_n 0) 1 144 := by decide +kernel
theorem dX5_init_144 : DD cX5_init 144 (.new 44) 3 147 := by decide +kernel
theorem dX5_init_147 : DD cX5_init 147 (.dup) 1 148 := by decide +kernel
theorem dX5_init_148 : DD cX5_init 148 (.invokespecial 46) 3 151 := by decide +kernel
theorem dX5_init_151 : DD cX5_init 151 (.putfield 47) 3 154 := by decide +kernel
theorem dX5_init_154 : DD cX5_init 154 (.return_) 1 155 := by decide +kernel
theorem dX6_init_0 : DD cX6_init 0 (.aload_n 0) 1 1 := by decide +kernel
theorem dX6_init_1 : DD cX6_init 1 (.invokespecial 1) 3 4 := by decide +kernel
theorem dX6_init_4 : DD cX6_init 4 (.aload_n 0) 1 5 := by decide +kernel
theorem dX6_init_5 : DD cX6_init 5 (.bipush 8) 2 7 := by decide +kernel
theorem dX6_init_7 : DD cX6_init 7 (.newarray .int) 2 9 := by decide +kernel
theorem dX6_init_9 : DD cX6_init 9 (.putfield 7) 3 12 := by decide +kernel
theorem dX6_init_12 : DD cX6_init 12 (.aload_n 0) 1 13 := by decide +kernel
theorem dX6_init_13 : DD cX6_init 13 (.bipush 8) 2 15 := by decide +kernel
theorem dX6_init_15 : DD cX6_init 15 (.newarray .int) 2 17 := by decide +kernel
theorem dX6_init_17 : DD cX6_init 17 (.putfield 13) 3 20 := by decide +kernel
theorem dX6_init_20 : DD cX6_init 20 (.aload_n 0) 1 21 := by decide +kernel
theorem dX6_init_21 : DD cX6_init 21 (.sipush 320) 3 24 := by decide +kernel
theorem dX6_init_24 : DD cX6_init 24 (.newarray .int) 2 26 := by decide +kernel
theorem dX6_init_26 : DD cX6_init 26 (.putfield 16) 3 29 := by decide +kernel
theorem dX6_init_29 : DD cX6_init 29 (.aload_n 0) 1 30 := by decide +kernel
theorem dX6_init_30 : DD cX6_init 30 (.bipush 40) 2 32 := by decide +kernel
theorem dX6_init_32 : DD cX6_init 32 (.newarray .int) 2 34 := by decide +kernel
theorem dX6_init_34 : DD cX6_init 34 (.putfield 19) 3 37 := by decide +kernel
theorem dX6_init_37 : DD cX6_init 37 (.aload_n 0) 1 38 := by decide +kernel
theorem dX6_init_38 : DD cX6_init 38 (.bipush 90) 2 40 := by decide +kernel
theorem dX6_init_40 : DD cX6_init 40 (.newarray .int) 2 42 := by decide +kernel
theorem dX6_init_42 : DD cX6_init 42 (.putfield 22) 3 45 := by decide +kernel
theorem dX6_init_45 : DD cX6_init 45 (.aload_n 0) 1 46 := by decide +kernel
theorem dX6_init_46 : DD cX6_init 46 (.bipush 43) 2 48 := by decide +kernel
theorem dX6_init_48 : DD cX6_init 48 (.newarray .int) 2 50 := by decide +kernel
theorem dX6_init_50 : DD cX6_init 50 (.putfield 25) 3 53 := by decide +kernel
theorem dX6_init_53 : DD cX6_init 53 (.aload_n 0) 1 54 := by decide +kernel
theorem dX6_init_54 : DD cX6_init 54 (.bipush 43) 2 56 := by decide +kernel
theorem dX6_init_56 : DD cX6_init 56 (.newarray .int) 2 58 := by decide +kernel
theorem dX6_init_58 : DD cX6_init 58 (.putfield 28) 3 61 := by decide +kernel
theorem dX6_init_61 : DD cX6_init 61 (.aload_n 0) 1 62 := by decide +kernel
theorem dX6_init_62 : DD cX6_init 62 (.bipush 43) 2 64 := by decide +kernel
theorem dX6_init_64 : DD cX6_init 64 (.newarray .int) 2 66 := by decide +kernel
theorem dX6_init_66 : DD cX6_init 66 (.putfield 31) 3 69 := by decide +kernel
theorem dX6_init_69 : DD cX6_init 69 (.aload_n 0) 1 70 := by decide +kernel
theorem dX6_init_70 : DD cX6_init 70 (.sipush 1032) 3 73 := by decide +kernel
theorem dX6_init_73 : DD cX6_init 73 (.newarray .int) 2 75 := by decide +kernel
theorem dX6_init_75 : DD cX6_init 75 (.putfield 34) 3 78 := by decide +kernel
theorem dX6_init_78 : DD cX6_init 78 (.aload_n 0) 1 79 := by decide +kernel
theorem dX6_init_79 : DD cX6_init 79 (.bipush 86) 2 81 := by decide +kernel
theorem dX6_init_81 : DD cX6_init 81 (.newarray .int) 2 83 := by decide +kernel
theorem dX6_init_83 : DD cX6_init 83 (.putfield 37) 3 86 := by decide +kernel
theorem dX6_init_86 : DD cX6_init 86 (.aload_n 0) 1 87 := by decide +kernel
theorem dX6_init_87 : DD cX6_init 87 (.iconst 2) 1 88 := by decide +kernel
theorem dX6_init_88 : DD cX6_init 88 (.newarray .boolean) 2 90 := by decide +kernel
theorem dX6_init_90 : DD cX6_init 90 (.putfield 40) 3 93 := by decide +kernel
theorem dX6_init_93 : DD cX6_init 93 (.aload_n 0) 1 94 := by decide +kernel
theorem dX6_init_94 : DD cX6_init 94 (.bipush 16) 2 96 := by decide +kernel
theorem dX6_init_96 : DD cX6_init 96 (.newarray .int) 2 98 := by decide +kernel
theorem dX6_init_98 : DD cX6_init 98 (.putfield 44) 3 101 := by decide +kernel
theorem dX6_init_101 : DD cX6_init 101 (.iconst 0) 1 102 := by decide +kernel
theorem dX6_init_102 : DD cX6_init 102 (.istore_n 1) 1 103 := by decide +kernel
theorem dX6_init_103 : DD cX6_init 103 (.iload_n 1) 1 104 := by decide +kernel
theorem dX6_init_104 : DD cX6_init 104 (.bipush 8) 2 106 := by decide +kernel
theorem dX6_init_106 : DD cX6_init 106 (.if_icmp .ge 17) 3 109 := by decide +kernel
theorem dX6_init_109 : DD cX6_init 109 (.aload_n 0) 1 110 := by decide +kernel
theorem dX6_init_110 : DD cX6_init 110 (.getfield 7) 3 113 := by decide +kernel
theorem dX6_init_113 : DD cX6_init 113 (.iload_n 1) 1 114 := by decide +kernel
theorem dX6_init_114 : DD cX6_init 114 (.ldc 47) 2 116 := by decide +kernel
theorem dX6_init_116 : DD cX6_init 116 (.iastore) 1 117 := by decide +kernel
theorem dX6_init_117 : DD cX6_init 117 (.iinc 1 1) 3 120 := by decide +kernel
theorem dX6_init_120 : DD cX6_init 120 (.goto (-17)) 3 123 := by decide +kernel
theorem dX6_init_123 : DD cX6_init 123 (.return_) 1 124 := by decide +kernel
theorem kZ_X5 : Cond.initialized RX5 ∈ lw_tbl := List.mem_of_getElem? (i := 57) (by decide +kernel)
theorem kZ_X3 : Cond.initialized RX3 ∈ lw_tbl := List.mem_of_getElem? (i := 58) (by decide +kernel)
theorem kZ_X4 : Cond.initialized RX4 ∈ lw_tbl := List.mem_of_getElem? (i := 59) (by decide +kernel)
theorem kZ_X2 : Cond.initialized RX2 ∈ lw_tbl := List.mem_of_getElem? (i := 60) (by decide +kernel)
theorem kZ_X0 : Cond.initialized RX0 ∈ lw_tbl := List.mem_of_getElem? (i := 61) (by decide +kernel)
theorem kZ_X1 : Cond.initialized RX1 ∈ lw_tbl := List.mem_of_getElem? (i := 62) (by decide +kernel)
theorem kZ_X6 : Cond.initialized RX6 ∈ lw_tbl := List.mem_of_getElem? (i := 63) (by decide +kernel)
theorem kK_cl_L_7 : Cond.classLink RL 7 RX5 ∈ lw_tbl := List.mem_of_getElem? (i := 67) (by decide +kernel)
theorem kN_X5 : Cond.instantiable RX5 8 ∈ lw_tbl := List.mem_of_getElem? (i := 68) (by decide +kernel)
theorem kO_X5 : Cond.methodLink RX5 1 Lib.objectInit ∈ lw_tbl := List.mem_of_getElem? (i := 72) (by decide +kernel)
theorem kK_cl_X5_9 : Cond.classLink RX5 9 RX3 ∈ lw_tbl := List.mem_of_getElem? (i := 75) (by decide +kernel)
theorem kN_X3 : Cond.instantiable RX3 3 ∈ lw_tbl := List.mem_of_getElem? (i := 77) (by decide +kernel)
theorem kO_X3 : Cond.methodLink RX3 3 Lib.objectInit ∈ lw_tbl := List.mem_of_getElem? (i := 81) (by decide +kernel)
theorem kK_cl_X5_16 : Cond.classLink RX5 16 RX4 ∈ lw_tbl := List.mem_of_getElem? (i := 95) (by decide +kernel)
theorem kN_X4 : Cond.instantiable RX4 5 ∈ lw_tbl := List.mem_of_getElem? (i := 96) (by decide +kernel)
theorem kO_X4 : Cond.methodLink RX4 3 Lib.objectInit ∈ lw_tbl := List.mem_of_getElem? (i := 100) (by decide +kernel)
theorem kK_cl_X5_23 : Cond.classLink RX5 23 RX2 ∈ lw_tbl := List.mem_of_getElem? (i := 120) (by decide +kernel)
theorem kN_X2 : Cond.instantiable RX2 12 ∈ lw_tbl := List.mem_of_getElem? (i := 121) (by decide +kernel)
theorem kO_X2 : Cond.methodLink RX2 3 Lib.objectInit ∈ lw_tbl := List.mem_of_getElem? (i := 125) (by decide +kernel)
theorem kK_cl_X5_30 : Cond.classLink RX5 30 RX0 ∈ lw_tbl := List.mem_of_getElem? (i := 188) (by decide +kernel)
theorem kN_X0 : Cond.instantiable RX0 3 ∈ lw_tbl := List.mem_of_getElem? (i := 189) (by decide +kernel)
theorem kO_X0 : Cond.methodLink RX0 3 Lib.objectInit ∈ lw_tbl := List.mem_of_getElem? (i := 193) (by decide +kernel)
theorem kK_cl_X0_9 : Cond.classLink RX0 9 RX2 ∈ lw_tbl := List.mem_of_getElem? (i := 194) (by decide +kernel)
theorem kK_cl_X5_44 : Cond.classLink RX5 44 RX1 ∈ lw_tbl := List.mem_of_getElem? (i := 208) (by decide +kernel)
theorem kN_X1 : Cond.instantiable RX1 2 ∈ lw_tbl := List.mem_of_getElem? (i := 209) (by decide +kernel)
theorem kO_X1 : Cond.methodLink RX1 3 Lib.objectInit ∈ lw_tbl := List.mem_of_getElem? (i := 213) (by decide +kernel)
theorem kK_cl_L_10 : Cond.classLink RL 10 RX6 ∈ lw_tbl := List.mem_of_getElem? (i := 671) (by decide +kernel)
theorem kN_X6 : Cond.instantiable RX6 22 ∈ lw_tbl := List.mem_of_getElem? (i := 672) (by decide +kernel)
theorem kO_X6 : Cond.methodLink RX6 1 Lib.objectInit ∈ lw_tbl := List.mem_of_getElem? (i := 676) (by decide +kernel)
theorem kO_i : Cond.instanceMethod Lib.objectInit ∈ lw_tbl := List.mem_of_getElem? (i := 73) (by decide +kernel)
theorem kO_c : Cond.code Lib.objectInit ⟨#[0xb1]⟩ 1 none ∈ lw_tbl := List.mem_of_getElem? (i := 74) (by decide +kernel)
theorem kY_int : Cond.arrayClass .int ∈ lw_tbl := List.mem_of_getElem? (i := 94) (by decide +kernel)
theorem kY_bool : Cond.arrayClass .boolean ∈ lw_tbl := List.mem_of_getElem? (i := 745) (by decide +kernel)
def h0 : AH := fun k j => if kd k = 3 then (if j = 1 then -1 else 0) else if k = 279 then -1000000 else 0
theorem h0_z {k : Nat} (h1 : kd k ≠ 3) (h2 : k ≠ 279) : h0 k = fun _ => 0 := by
  funext j
  simp [h0, h1, h2]
theorem h0_7 {X : WX} {k N : Nat} (h1 : kd k = 7) (h2 : ln k = N) (h3 : k ≠ 279) : lay X h0 k = .inl (X.2.2.1 0, N, .inl (fun _ => 0)) := by
  rw [lay_7 X h0 h1, h2, h0_z (by omega) h3]
theorem JI_cast {K : MC} {X : WX} {nL : Nat} {Z : State → Prop} {c0 s0 pc n : Nat} {lv : List (Nat × Value)} {st : List Value} {hp hp' : Nat → va_E} {c1 s1 n1 : Nat} (hc : c0 = c1) (hs : s0 = s1) (hn : n = n1) (hh : hp = hp') (k : JI K X nL Z c1 s1 pc lv st n1 hp') : JI K X nL Z c0 s0 pc lv st n hp := by
  subst hc; subst hs; subst hn; subst hh; exact k
theorem JI_icmp_gt {K : MC} {X : WX} {nL : Nat} {Z : State → Prop} {own : String} {cc : ByteArray} {kk mc ms c0 s0 pc pc' n : Nat} {lv : List (Nat × Value)} {st : List Value} {hp : Nat → va_E} {x y : Int32} {off : Int} {tgt : Nat} (hK : OkI K X own cc nL kk mc ms) (hd : DD cc pc (.if_icmp .gt off) 3 pc') (ht : DT pc off tgt) (k1 : y < x → JI K X nL Z c0 s0 tgt lv st n hp) (k2 : ¬ y < x → JI K X nL Z c0 s0 pc' lv st n hp) : JI K X nL Z c0 s0 pc lv (.int y :: .int x :: st) n hp := by
  obtain ⟨p, l, e, R, s, m, args, below, meth, c, c9, s9⟩ := K
  obtain ⟨hx, hb, hml, hown, hts, hlk, hE, hfr, hlo, hce, hsl, hX1⟩ := hK
  obtain ⟨hd, rfl⟩ := hd
  intro H locs ls hH hS hl
  exact lv_icmp_gt hx hb hd ht (fun q => k1 q H locs ls hH hS hl) (fun q => k2 q H locs ls hH hS hl)
theorem kdT_1 {q : Nat} (h : kd q = 4) : kd (q + 1) = 7 ∧ ln (q + 1) = 90 ∧ q + 1 ≠ 279 := by
  have key : ∀ q, q < 291 → kd q = 4 → kd (q + 1) = 7 ∧ ln (q + 1) = 90 ∧ q + 1 ≠ 279 := by decide +kernel
  exact key q (kd_lt h (by decide)) h
theorem kdK_1 {q : Nat} (h : kd q = 1) : kd (q + 1) = 7 ∧ ln (q + 1) = 16 ∧ q + 1 ≠ 279 := by
  have key : ∀ q, q < 291 → kd q = 1 → kd (q + 1) = 7 ∧ ln (q + 1) = 16 ∧ q + 1 ≠ 279 := by decide +kernel
  exact key q (kd_lt h (by decide)) h
set_option maxHeartbeats 1000000 in
theorem mX3_init {l : Launch} {X : WX} {q : Nat} {b : Nat → va_E} (hq : kd q = 3) (hb : ∀ k, q ≤ k → k < q + 2 → b k = lay X h0 k) : DoesI l X 2 yX3_init cX3_init 1 1 40 [.ref (X.1 + q)] (q + 1) (ov b q (.inr (3, [.null, .int 0, .int 0]))) (q + 2) b := by
  have hq9 : q ≠ 279 := fun e => by rw [e, kd_279] at hq; cases hq
  refine DoesI.of (lv := [(0, .ref (X.1 + q))]) (by decide) rfl (Nat.le_of_ble_eq_true rfl) rfl (fun K hl hK hC => ?_)
  subst hl
  refine JI_aload_n hK dX3_init_0 0 rfl ?_
  refine JI_objInit hK dX3_init_1 kO_X3 kO_i kO_c (by decide) (Nat.le_of_ble_eq_true rfl) ?_
  refine JI_aload_n hK dX3_init_4 0 rfl ?_
  refine JI_bipush hK dX3_init_5 cb_40 ?_
  refine JI_newI (N := 40) hK dX3_init_7 kY_int (by decide) (by decide) (by decide) (by rw [ov_ne _ _ (by omega)]; exact (hb _ (by omega) (by omega)).trans (h0_7 (kdR_1 hq) (lnR_1 hq) (fun e => by have := kdR_1 hq; rw [show q = 278 by omega, kd_278] at hq; cases hq))) (by omega) (by omega) ?_
  refine JI_putF hK dX3_init_9 hC rfl inXg3 tyX3_ok nmX3 (q := q) (by omega) (ci := 3) rfl (j := 0) (by decide) (fs := [.null, .int 0, .int 0]) (by rw [ov_eq]) (Nat.le_of_ble_eq_true rfl) kF_X3_9 rfl rfl (ty := (.array .int)) (by decide +kernel) rfl rfl ?_
  refine JI_eq (hp' := ov b q (.inr (3, [.ref (X.1 + (q + 1)), .int 0, .int 0]))) (by rw [ov_ov]; rfl) ?_
  refine JI_aload_n hK dX3_init_12 0 rfl ?_
  refine JI_iconst hK dX3_init_13 ci_m1 ?_
  refine JI_put hK dX3_init_14 inXg3 tyX3_ok nmX3 (q := q) (by omega) (ci := 3) rfl (j := 1) (by decide) (fs := [.ref (X.1 + (q + 1)), .int 0, .int 0]) (by rw [ov_eq]) (Nat.le_of_ble_eq_true rfl) kF_X3_15 rfl rfl (ty := .int) (by decide +kernel) rfl rfl ?_
  refine JI_eq (hp' := ov b q (.inr (3, [.ref (X.1 + (q + 1)), .int (-1), .int 0]))) (by rw [ov_ov]; rfl) ?_
  refine JI_eq (hp' := b) (ov_id b q (by rw [hb q (by omega) (by omega), lay_3 X h0 hq]; simp [h0, hq])) ?_
  exact JI_ret hK hC dX3_init_17 (by omega) (by omega)
set_option maxHeartbeats 1000000 in
theorem mX4_init {l : Launch} {X : WX} {q : Nat} {b : Nat → va_E} (hq : kd q = 4) (hb : ∀ k, q ≤ k → k < q + 2 → b k = lay X h0 k) : DoesI l X 2 yX4_init cX4_init 1 1 90 [.ref (X.1 + q)] (q + 1) (ov b q (.inr (4, [.null, .int 0, .int 0, .int 0, .int 0]))) (q + 2) b := by
  have hq9 : q ≠ 279 := fun e => by rw [e, kd_279] at hq; cases hq
  refine DoesI.of (lv := [(0, .ref (X.1 + q))]) (by decide) rfl (Nat.le_of_ble_eq_true rfl) rfl (fun K hl hK hC => ?_)
  subst hl
  refine JI_aload_n hK dX4_init_0 0 rfl ?_
  refine JI_objInit hK dX4_init_1 kO_X4 kO_i kO_c (by decide) (Nat.le_of_ble_eq_true rfl) ?_
  refine JI_aload_n hK dX4_init_4 0 rfl ?_
  refine JI_bipush hK dX4_init_5 cb_90 ?_
  refine JI_newI (N := 90) hK dX4_init_7 kY_int (by decide) (by decide) (by decide) (by rw [ov_ne _ _ (by omega)]; exact (hb _ (by omega) (by omega)).trans (h0_7 (kdT_1 hq).1 (kdT_1 hq).2.1 (kdT_1 hq).2.2)) (by omega) (by omega) ?_
  refine JI_putF hK dX4_init_9 hC rfl inXg4 tyX4_ok nmX4 (q := q) (by omega) (ci := 4) rfl (j := 0) (by decide) (fs := [.null, .int 0, .int 0, .int 0, .int 0]) (by rw [ov_eq]) (Nat.le_of_ble_eq_true rfl) kF_X4_9 rfl rfl (ty := (.array .int)) (by decide +kernel) rfl rfl ?_
  refine JI_eq (hp' := ov b q (.inr (4, [.ref (X.1 + (q + 1)), .int 0, .int 0, .int 0, .int 0]))) (by rw [ov_ov]; rfl) ?_
  refine JI_eq (hp' := b) (ov_id b q (by rw [hb q (by omega) (by omega), lay_4 X h0 hq, h0_z (by omega) hq9])) ?_
  exact JI_ret hK hC dX4_init_12 (by omega) (by omega)
set_option maxHeartbeats 1000000 in
theorem mX1_init {l : Launch} {X : WX} {q : Nat} {b : Nat → va_E} (hq : kd q = 1) (hb : ∀ k, q ≤ k → k < q + 2 → b k = lay X h0 k) : DoesI l X 2 yX1_init cX1_init 1 1 16 [.ref (X.1 + q)] (q + 1) (ov b q (.inr (1, [.null, .int 0]))) (q + 2) b := by
  have hq9 : q ≠ 279 := fun e => by rw [e, kd_279] at hq; cases hq
  refine DoesI.of (lv := [(0, .ref (X.1 + q))]) (by decide) rfl (Nat.le_of_ble_eq_true rfl) rfl (fun K hl hK hC => ?_)
  subst hl
  refine JI_aload_n hK dX1_init_0 0 rfl ?_
  refine JI_objInit hK dX1_init_1 kO_X1 kO_i kO_c (by decide) (Nat.le_of_ble_eq_true rfl) ?_
  refine JI_aload_n hK dX1_init_4 0 rfl ?_
  refine JI_bipush hK dX1_init_5 cb_16 ?_
  refine JI_newI (N := 16) hK dX1_init_7 kY_int (by decide) (by decide) (by decide) (by rw [ov_ne _ _ (by omega)]; exact (hb _ (by omega) (by omega)).trans (h0_7 (kdK_1 hq).1 (kdK_1 hq).2.1 (kdK_1 hq).2.2)) (by omega) (by omega) ?_
  refine JI_putF hK dX1_init_9 hC rfl inXg1 tyX1_ok nmX1 (q := q) (by omega) (ci := 1) rfl (j := 0) (by decide) (fs := [.null, .int 0]) (by rw [ov_eq]) (Nat.le_of_ble_eq_true rfl) kF_X1_9 rfl rfl (ty := (.array .int)) (by decide +kernel) rfl rfl ?_
  refine JI_eq (hp' := ov b q (.inr (1, [.ref (X.1 + (q + 1)), .int 0]))) (by rw [ov_ov]; rfl) ?_
  refine JI_eq (hp' := b) (ov_id b q (by rw [hb q (by omega) (by omega), lay_1 X h0 hq, h0_z (by omega) hq9])) ?_
  exact JI_ret hK hC dX1_init_12 (by omega) (by omega)
set_option maxHeartbeats 1000000 in
theorem mX2_init {l : Launch} {X : WX} {q : Nat} {b : Nat → va_E} (hq : kd q = 2) (hb : ∀ k, q ≤ k → k < q + 7 → b k = lay X h0 k) : DoesI l X 2 yX2_init cX2_init 1 6 32 [.ref (X.1 + q)] (q + 1) (ov b q (.inr (2, [.int 0, .int 0, .int 0, .int 0, .int 0, .int 0, .null, .null, .null, .null, .null, .null]))) (q + 7) b := by
  have hq9 : q ≠ 279 := fun e => by rw [e, kd_279] at hq; cases hq
  refine DoesI.of (lv := [(0, .ref (X.1 + q))]) (by decide) rfl (Nat.le_of_ble_eq_true rfl) rfl (fun K hl hK hC => ?_)
  subst hl
  refine JI_aload_n hK dX2_init_0 0 rfl ?_
  refine JI_objInit hK dX2_init_1 kO_X2 kO_i kO_c (by decide) (Nat.le_of_ble_eq_true rfl) ?_
  refine JI_aload_n hK dX2_init_4 0 rfl ?_
  refine JI_bipush hK dX2_init_5 cb_6 ?_
  refine JI_newI (N := 6) hK dX2_init_7 kY_int (by decide) (by decide) (by decide) (by rw [ov_ne _ _ (by omega)]; exact (hb _ (by omega) (by omega)).trans (h0_7 (kdE_1 hq) (lnE_1 hq) (fun e => by rw [show q = 278 by omega] at hq; exact absurd hq (by decide +kernel)))) (by omega) (by omega) ?_
  refine JI_putF hK dX2_init_9 hC rfl inXg2 tyX2_ok nmX2 (q := q) (by omega) (ci := 2) rfl (j := 6) (by decide) (fs := [.int 0, .int 0, .int 0, .int 0, .int 0, .int 0, .null, .null, .null, .null, .null, .null]) (by rw [ov_eq]) (Nat.le_of_ble_eq_true rfl) kF_X2_9 rfl rfl (ty := (.array .int)) (by decide +kernel) rfl rfl ?_
  refine JI_eq (hp' := ov b q (.inr (2, [.int 0, .int 0, .int 0, .int 0, .int 0, .int 0, .ref (X.1 + (q + 1)), .null, .null, .null, .null, .null]))) (by rw [ov_ov]; rfl) ?_
  refine JI_aload_n hK dX2_init_12 0 rfl ?_
  refine JI_bipush hK dX2_init_13 cb_6 ?_
  refine JI_newI (N := 6) hK dX2_init_15 kY_int (by decide) (by decide) (by decide) (by rw [ov_ne _ _ (by omega)]; exact (hb _ (by omega) (by omega)).trans (h0_7 (kdE_2 hq) (lnE_2 hq) (fun e => by rw [show q = 277 by omega] at hq; exact absurd hq (by decide +kernel)))) (by omega) (by omega) ?_
  refine JI_putF hK dX2_init_17 hC rfl inXg2 tyX2_ok nmX2 (q := q) (by omega) (ci := 2) rfl (j := 7) (by decide) (fs := [.int 0, .int 0, .int 0, .int 0, .int 0, .int 0, .ref (X.1 + (q + 1)), .null, .null, .null, .null, .null]) (by rw [ov_eq]) (Nat.le_of_ble_eq_true rfl) kF_X2_15 rfl rfl (ty := (.array .int)) (by decide +kernel) rfl rfl ?_
  refine JI_eq (hp' := ov b q (.inr (2, [.int 0, .int 0, .int 0, .int 0, .int 0, .int 0, .ref (X.1 + (q + 1)), .ref (X.1 + (q + 2)), .null, .null, .null, .null]))) (by rw [ov_ov]; rfl) ?_
  refine JI_aload_n hK dX2_init_20 0 rfl ?_
  refine JI_bipush hK dX2_init_21 cb_6 ?_
  refine JI_newI (N := 6) hK dX2_init_23 kY_int (by decide) (by decide) (by decide) (by rw [ov_ne _ _ (by omega)]; exact (hb _ (by omega) (by omega)).trans (h0_7 (kdE_3 hq) (lnE_3 hq) (fun e => by rw [show q = 276 by omega] at hq; exact absurd hq (by decide +kernel)))) (by omega) (by omega) ?_
  refine JI_putF hK dX2_init_25 hC rfl inXg2 tyX2_ok nmX2 (q := q) (by omega) (ci := 2) rfl (j := 8) (by decide) (fs := [.int 0, .int 0, .int 0, .int 0, .int 0, .int 0, .ref (X.1 + (q + 1)), .ref (X.1 + (q + 2)), .null, .null, .null, .null]) (by rw [ov_eq]) (Nat.le_of_ble_eq_true rfl) kF_X2_18 rfl rfl (ty := (.array .int)) (by decide +kernel) rfl rfl ?_
  refine JI_eq (hp' := ov b q (.inr (2, [.int 0, .int 0, .int 0, .int 0, .int 0, .int 0, .ref (X.1 + (q + 1)), .ref (X.1 + (q + 2)), .ref (X.1 + (q + 3)), .null, .null, .null]))) (by rw [ov_ov]; rfl) ?_
  refine JI_aload_n hK dX2_init_28 0 rfl ?_
  refine JI_bipush hK dX2_init_29 cb_6 ?_
  refine JI_newI (N := 6) hK dX2_init_31 kY_int (by decide) (by decide) (by decide) (by rw [ov_ne _ _ (by omega)]; exact (hb _ (by omega) (by omega)).trans (h0_7 (kdE_4 hq) (lnE_4 hq) (fun e => by rw [show q = 275 by omega] at hq; exact absurd hq (by decide +kernel)))) (by omega) (by omega) ?_
  refine JI_putF hK dX2_init_33 hC rfl inXg2 tyX2_ok nmX2 (q := q) (by omega) (ci := 2) rfl (j := 9) (by decide) (fs := [.int 0, .int 0, .int 0, .int 0, .int 0, .int 0, .ref (X.1 + (q + 1)), .ref (X.1 + (q + 2)), .ref (X.1 + (q + 3)), .null, .null, .null]) (by rw [ov_eq]) (Nat.le_of_ble_eq_true rfl) kF_X2_21 rfl rfl (ty := (.array .int)) (by decide +kernel) rfl rfl ?_
  refine JI_eq (hp' := ov b q (.inr (2, [.int 0, .int 0, .int 0, .int 0, .int 0, .int 0, .ref (X.1 + (q + 1)), .ref (X.1 + (q + 2)), .ref (X.1 + (q + 3)), .ref (X.1 + (q + 4)), .null, .null]))) (by rw [ov_ov]; rfl) ?_
  refine JI_aload_n hK dX2_init_36 0 rfl ?_
  refine JI_iconst hK dX2_init_37 ci_4 ?_
  refine JI_newI (N := 4) hK dX2_init_38 kY_int (by decide) (by decide) (by decide) (by rw [ov_ne _ _ (by omega)]; exact (hb _ (by omega) (by omega)).trans (h0_7 (kdE_5 hq) (lnE_5 hq) (fun e => by rw [show q = 274 by omega] at hq; exact absurd hq (by decide +kernel)))) (by omega) (by omega) ?_
  refine JI_putF hK dX2_init_40 hC rfl inXg2 tyX2_ok nmX2 (q := q) (by omega) (ci := 2) rfl (j := 10) (by decide) (fs := [.int 0, .int 0, .int 0, .int 0, .int 0, .int 0, .ref (X.1 + (q + 1)), .ref (X.1 + (q + 2)), .ref (X.1 + (q + 3)), .ref (X.1 + (q + 4)), .null, .null]) (by rw [ov_eq]) (Nat.le_of_ble_eq_true rfl) kF_X2_24 rfl rfl (ty := (.array .int)) (by decide +kernel) rfl rfl ?_
  refine JI_eq (hp' := ov b q (.inr (2, [.int 0, .int 0, .int 0, .int 0, .int 0, .int 0, .ref (X.1 + (q + 1)), .ref (X.1 + (q + 2)), .ref (X.1 + (q + 3)), .ref (X.1 + (q + 4)), .ref (X.1 + (q + 5)), .null]))) (by rw [ov_ov]; rfl) ?_
  refine JI_aload_n hK dX2_init_43 0 rfl ?_
  refine JI_iconst hK dX2_init_44 ci_4 ?_
  refine JI_newI (N := 4) hK dX2_init_45 kY_int (by decide) (by decide) (by decide) (by rw [ov_ne _ _ (by omega)]; exact (hb _ (by omega) (by omega)).trans (h0_7 (kdE_6 hq) (lnE_6 hq) (fun e => by rw [show q = 273 by omega] at hq; exact absurd hq (by decide +kernel)))) (by omega) (by omega) ?_
  refine JI_putF hK dX2_init_47 hC rfl inXg2 tyX2_ok nmX2 (q := q) (by omega) (ci := 2) rfl (j := 11) (by decide) (fs := [.int 0, .int 0, .int 0, .int 0, .int 0, .int 0, .ref (X.1 + (q + 1)), .ref (X.1 + (q + 2)), .ref (X.1 + (q + 3)), .ref (X.1 + (q + 4)), .ref (X.1 + (q + 5)), .null]) (by rw [ov_eq]) (Nat.le_of_ble_eq_true rfl) kF_X2_27 rfl rfl (ty := (.array .int)) (by decide +kernel) rfl rfl ?_
  refine JI_eq (hp' := ov b q (.inr (2, [.int 0, .int 0, .int 0, .int 0, .int 0, .int 0, .ref (X.1 + (q + 1)), .ref (X.1 + (q + 2)), .ref (X.1 + (q + 3)), .ref (X.1 + (q + 4)), .ref (X.1 + (q + 5)), .ref (X.1 + (q + 6))]))) (by rw [ov_ov]; rfl) ?_
  refine JI_eq (hp' := b) (ov_id b q (by rw [hb q (by omega) (by omega), lay_2 X h0 hq, h0_z (by omega) hq9])) ?_
  exact JI_ret hK hC dX2_init_50 (by omega) (by omega)
set_option maxHeartbeats 2000000 in
theorem mX0_L15 {K : MC} {X : WX} {Z : State → Prop} {b : Nat → va_E} (hK : OkI K X RX0 cX0_init 2 4 169 1080) (hthis : b 27 = .inr (0, [.ref (X.1 + 28), .int 0, .int 0])) (hb : ∀ k, 29 ≤ k → k < 197 → b k = lay X h0 k) : ∀ (m i : Nat), i + m = 24 → JI K X 2 Z 169 1080 40 [(1, .int (nI 24)), (0, .ref (X.1 + 27))] [] 197 (ov b 28 (.inl (X.2.2.1 2, 24, .inr (.inr (.inr (.inr (fun j => if j < 24 then some (X.1 + (29 + 7 * j)) else none))))))) → JI K X 2 Z (1 + 7 * i) (24 + 44 * i) 15 [(1, .int (nI i)), (0, .ref (X.1 + 27))] [] (29 + 7 * i) (ov b 28 (.inl (X.2.2.1 2, 24, .inr (.inr (.inr (.inr (fun j => if j < i then some (X.1 + (29 + 7 * j)) else none))))))) := by
  intro m
  induction m with
  | zero =>
    intro i hi hk
    have hi : i = 24 := by omega
    subst hi
    refine JI_iload_n hK dX0_init_15 0 rfl ?_
    refine JI_bipush hK dX0_init_16 cb_24 ?_
    refine JI_icmp_ge (tgt := 40) hK dX0_init_18 (by decide) (fun q => absurd q (by decide)) (fun _ => hk)
  | succ m ih =>
    intro i hi hk
    have hi2 : i < 24 := by omega
    refine JI_iload_n hK dX0_init_15 0 rfl ?_
    refine JI_bipush hK dX0_init_16 cb_24 ?_
    refine JI_icmp_ge (tgt := 40) hK dX0_init_18 (by decide) (fun _ => ?_) (fun q => absurd (show nI i < nI 24 from nI_lt hi2 (by omega)) q)
    refine JI_aload_n hK dX0_init_21 1 rfl ?_
    refine JI_get hK dX0_init_22 inXg0 (q := 27) (by omega) (ci := 0) rfl (j := 0) (by decide) (fs := [.ref (X.1 + 28), .int 0, .int 0]) (by rw [ov_ne _ _ (by omega)]; exact hthis) (v := .ref (X.1 + 28)) rfl kF_X0_11 rfl ?_
    refine JI_iload_n hK dX0_init_25 0 rfl ?_
    refine JI_new hK dX0_init_26 inXg2 tyX2_ok kK_cl_X0_9 kN_X2 kZ_X2 (ci := 2) rfl (fs := [.int 0, .int 0, .int 0, .int 0, .int 0, .int 0, .null, .null, .null, .null, .null, .null]) (fun j hj => by (have key : ∀ j, j < 12 → defaultValue (tyX2 j) = vp_V [.int 0, .int 0, .int 0, .int 0, .int 0, .int 0, .null, .null, .null, .null, .null, .null] j := by decide +kernel); exact key j hj) (by omega) (by omega) ?_
    refine JI_dup hK dX0_init_29 rfl ?_
    have hkd : kd (29 + 7 * i) = 2 := by (have key : ∀ j, j < 24 → kd (29 + 7 * j) = 2 := by decide +kernel); exact key i hi2
    refine JI_callI hK dX0_init_30 kB_X0_17 kI_X2_init rfl (j := 2) (by decide) (Nat.le_of_ble_eq_true rfl) (by omega) (by omega) (mX2_init hkd (fun k h1 h2 => ?_)) ?_
    · rw [ov_ne _ _ (by omega)]
      exact hb k (by omega) (by omega)
    refine JI_aast (N := 24) (ci := 2) (t0 := 2) (r := (RX2, TX2, 12)) hK dX0_init_33 (q := 28) (qv := 29 + 7 * i) (by omega) (by omega) (by rw [ov_eq]) rfl (by rw [ov_ne _ _ (by omega), hb _ (by omega) (by omega), lay_2 X h0 hkd]) rfl (vp_in_nI hi2 (by omega)) ?_
    refine JI_iinc (lw := [(0, .ref (X.1 + 27))]) hK dX0_init_34 0 rfl (by decide) (v := nI (i + 1)) (by rw [nI_succ]; rfl) rfl ?_
    refine JI_goto (tgt := 15) hK dX0_init_37 (by decide) ?_
    refine JI_cast (by omega) (by omega) (by omega) ?_ (ih (i + 1) (by omega) hk)
    rw [nI_clamp (by omega), ov_ov]
    have hfun : va_up (fun j => if j < i then some (X.1 + (29 + 7 * j)) else none) i (some (X.1 + (29 + 7 * i))) = fun j => if j < i + 1 then some (X.1 + (29 + 7 * j)) else none := by
      funext j
      unfold va_up
      by_cases e1 : j = i
      · subst e1; simp
      · by_cases e2 : j < i
        · simp [e1, e2, show j < i + 1 by omega]
        · simp [e1, e2, show ¬ j < i + 1 by omega]
    rw [hfun]
set_option maxHeartbeats 1000000 in
theorem mX0_init {l : Launch} {X : WX} {b : Nat → va_E} (hb : ∀ k, 27 ≤ k → k < 197 → b k = lay X h0 k) : DoesI l X 4 yX0_init cX0_init 2 169 1080 [.ref (X.1 + 27)] 28 (ov b 27 (.inr (0, [.null, .int 0, .int 0]))) 197 b := by
  refine DoesI.of (lv := [(0, .ref (X.1 + 27))]) (by decide) rfl (Nat.le_of_ble_eq_true rfl) rfl (fun K hl hK hC => ?_)
  subst hl
  refine JI_aload_n hK dX0_init_0 0 rfl ?_
  refine JI_objInit hK dX0_init_1 kO_X0 kO_i kO_c (by decide) (Nat.le_of_ble_eq_true rfl) ?_
  refine JI_aload_n hK dX0_init_4 0 rfl ?_
  refine JI_bipush hK dX0_init_5 cb_24 ?_
  refine JI_newE (N := 24) hK dX0_init_7 kK_cl_X0_9 (by decide) (by decide) (by decide) (by omega) (by omega) ?_
  refine JI_putF hK dX0_init_10 hC rfl inXg0 tyX0_ok nmX0 (q := 27) (by omega) (ci := 0) rfl (j := 0) (by decide) (fs := [.null, .int 0, .int 0]) (by rw [ov_ne _ _ (by omega), ov_eq]) (Nat.le_of_ble_eq_true rfl) kF_X0_11 rfl rfl (ty := (.array (.object "TugLines$Estuary"))) (by decide +kernel) rfl rfl ?_
  have hthis : b 27 = .inr (0, [.ref (X.1 + 28), .int 0, .int 0]) := by rw [hb 27 (by omega) (by omega), lay_0 X h0 kd_27, h0_z (by rw [kd_27]; decide) (by decide)]
  refine JI_iconst hK dX0_init_13 ci_0 ?_
  refine JI_istore_n (j := 1) (lw := [(0, .ref (X.1 + 27))]) hK dX0_init_14 rfl (by decide) rfl ?_
  refine JI_cast rfl rfl rfl ?_ (mX0_L15 hK hthis (fun k h1 h2 => hb k (by omega) (by omega)) 24 0 rfl ?_)
  · rw [ov_comm _ _ _ (by decide), ov_ov]
    show ov (ov b 27 (.inr (0, [.ref (X.1 + 28), .int 0, .int 0]))) 28 _ = _
    rw [ov_id b 27 hthis]
    simp
  · refine JI_same (q := 28) (v := lay X h0 28) ?_ ?_
    · rw [ov_eq, lay_9 X h0 kd_28]
      exact arr_same (fun j hj => by rw [if_pos hj])
    · refine JI_eq (hp' := b) (by rw [ov_ov]; exact ov_id b 28 (hb 28 (by omega) (by omega))) ?_
      exact JI_ret hK hC dX0_init_40 (by omega) (by omega)
set_option maxHeartbeats 2000000 in
theorem mX5_L15 {K : MC} {X : WX} {Z : State → Prop} {b : Nat → va_E} (hK : OkI K X RX5 cX5_init 2 6 277 2087) (hb : ∀ k, 2 ≤ k → k < 18 → b k = lay X h0 k) : ∀ (m i : Nat), i + m = 8 → JI K X 2 Z 17 352 40 [(1, .int (nI 8)), (0, .ref (X.1 + 0))] [] 18 (ov (ov b 0 (.inr (5, [.ref (X.1 + 1), .null, .null, .null, .null, .null, .null, .int 0]))) 1 (.inl (X.2.2.1 3, 8, .inr (.inr (.inr (.inr (fun j => if j < 8 then some (X.1 + (2 + 2 * j)) else none))))))) → JI K X 2 Z (1 + 2 * i) (8 + 43 * i) 15 [(1, .int (nI i)), (0, .ref (X.1 + 0))] [] (2 + 2 * i) (ov (ov b 0 (.inr (5, [.ref (X.1 + 1), .null, .null, .null, .null, .null, .null, .int 0]))) 1 (.inl (X.2.2.1 3, 8, .inr (.inr (.inr (.inr (fun j => if j < i then some (X.1 + (2 + 2 * j)) else none))))))) := by
  intro m
  induction m with
  | zero =>
    intro i hi hk
    have hi : i = 8 := by omega
    subst hi
    refine JI_iload_n hK dX5_init_15 0 rfl ?_
    refine JI_bipush hK dX5_init_16 cb_8 ?_
    refine JI_icmp_ge (tgt := 40) hK dX5_init_18 (by decide) (fun q => absurd q (by decide)) (fun _ => hk)
  | succ m ih =>
    intro i hi hk
    have hi2 : i < 8 := by omega
    refine JI_iload_n hK dX5_init_15 0 rfl ?_
    refine JI_bipush hK dX5_init_16 cb_8 ?_
    refine JI_icmp_ge (tgt := 40) hK dX5_init_18 (by decide) (fun _ => ?_) (fun q => absurd (show nI i < nI 8 from nI_lt hi2 (by omega)) q)
    refine JI_aload_n hK dX5_init_21 1 rfl ?_
    refine JI_get hK dX5_init_22 inXg5 (q := 0) (by omega) (ci := 5) rfl (j := 0) (by decide) (fs := [.ref (X.1 + 1), .null, .null, .null, .null, .null, .null, .int 0]) (by rw [ov_ne _ _ (by omega), ov_eq]) (v := .ref (X.1 + 1)) rfl kF_X5_11 rfl ?_
    refine JI_iload_n hK dX5_init_25 0 rfl ?_
    refine JI_new hK dX5_init_26 inXg3 tyX3_ok kK_cl_X5_9 kN_X3 kZ_X3 (ci := 3) rfl (fs := [.null, .int 0, .int 0]) (fun j hj => by (have key : ∀ j, j < 3 → defaultValue (tyX3 j) = vp_V [.null, .int 0, .int 0] j := by decide +kernel); exact key j hj) (by omega) (by omega) ?_
    refine JI_dup hK dX5_init_29 rfl ?_
    have hkd : kd (2 + 2 * i) = 3 := by (have key : ∀ j, j < 8 → kd (2 + 2 * j) = 3 := by decide +kernel); exact key i hi2
    refine JI_callI hK dX5_init_30 kB_X5_15 kI_X3_init rfl (j := 2) (by decide) (Nat.le_of_ble_eq_true rfl) (by omega) (by omega) (mX3_init hkd (fun k h1 h2 => ?_)) ?_
    · rw [ov_ne _ _ (by omega), ov_ne _ _ (by omega)]
      exact hb k (by omega) (by omega)
    refine JI_aast (N := 8) (ci := 3) (t0 := 3) (r := (RX3, TX3, 3)) hK dX5_init_33 (q := 1) (qv := 2 + 2 * i) (by omega) (by omega) (by rw [ov_eq]) rfl (by rw [ov_ne _ _ (by omega), ov_ne _ _ (by omega), hb _ (by omega) (by omega), lay_3 X h0 hkd]) rfl (vp_in_nI hi2 (by omega)) ?_
    refine JI_iinc (lw := [(0, .ref (X.1 + 0))]) hK dX5_init_34 0 rfl (by decide) (v := nI (i + 1)) (by rw [nI_succ]; rfl) rfl ?_
    refine JI_goto (tgt := 15) hK dX5_init_37 (by decide) ?_
    refine JI_cast (by omega) (by omega) (by omega) ?_ (ih (i + 1) (by omega) hk)
    rw [nI_clamp (by omega), ov_ov]
    have hfun : va_up (fun j => if j < i then some (X.1 + (2 + 2 * j)) else none) i (some (X.1 + (2 + 2 * i))) = fun j => if j < i + 1 then some (X.1 + (2 + 2 * j)) else none := by
      funext j
      unfold va_up
      by_cases e1 : j = i
      · subst e1; simp
      · by_cases e2 : j < i
        · simp [e1, e2, show j < i + 1 by omega]
        · simp [e1, e2, show ¬ j < i + 1 by omega]
    rw [hfun]
set_option maxHeartbeats 2000000 in
theorem mX5_L83 {K : MC} {X : WX} {Z : State → Prop} {b : Nat → va_E} (hK : OkI K X RX5 cX5_init 2 6 277 2087) (hb : ∀ k, 198 ≤ k → k < 212 → b k = lay X h0 k) : ∀ (m i : Nat), i + m = 2 → JI K X 2 Z 211 1664 107 [(1, .int (nI 2)), (0, .ref (X.1 + 0))] [] 212 (ov (ov b 0 (.inr (5, [.ref (X.1 + 1), .ref (X.1 + 18), .ref (X.1 + 20), .ref (X.1 + 27), .ref (X.1 + 197), .null, .null, .int 0]))) 197 (.inl (X.2.2.1 2, 2, .inr (.inr (.inr (.inr (fun j => if j < 2 then some (X.1 + (198 + 7 * j)) else none))))))) → JI K X 2 Z (197 + 7 * i) (1576 + 44 * i) 83 [(1, .int (nI i)), (0, .ref (X.1 + 0))] [] (198 + 7 * i) (ov (ov b 0 (.inr (5, [.ref (X.1 + 1), .ref (X.1 + 18), .ref (X.1 + 20), .ref (X.1 + 27), .ref (X.1 + 197), .null, .null, .int 0]))) 197 (.inl (X.2.2.1 2, 2, .inr (.inr (.inr (.inr (fun j => if j < i then some (X.1 + (198 + 7 * j)) else none))))))) := by
  intro m
  induction m with
  | zero =>
    intro i hi hk
    have hi : i = 2 := by omega
    subst hi
    refine JI_iload_n hK dX5_init_83 0 rfl ?_
    refine JI_iconst hK dX5_init_84 ci_2 ?_
    refine JI_icmp_ge (tgt := 107) hK dX5_init_85 (by decide) (fun q => absurd q (by decide)) (fun _ => hk)
  | succ m ih =>
    intro i hi hk
    have hi2 : i < 2 := by omega
    refine JI_iload_n hK dX5_init_83 0 rfl ?_
    refine JI_iconst hK dX5_init_84 ci_2 ?_
    refine JI_icmp_ge (tgt := 107) hK dX5_init_85 (by decide) (fun _ => ?_) (fun q => absurd (show nI i < nI 2 from nI_lt hi2 (by omega)) q)
    refine JI_aload_n hK dX5_init_88 1 rfl ?_
    refine JI_get hK dX5_init_89 inXg5 (q := 0) (by omega) (ci := 5) rfl (j := 4) (by decide) (fs := [.ref (X.1 + 1), .ref (X.1 + 18), .ref (X.1 + 20), .ref (X.1 + 27), .ref (X.1 + 197), .null, .null, .int 0]) (by rw [ov_ne _ _ (by omega), ov_eq]) (v := .ref (X.1 + 197)) rfl kF_X5_37 rfl ?_
    refine JI_iload_n hK dX5_init_92 0 rfl ?_
    refine JI_new hK dX5_init_93 inXg2 tyX2_ok kK_cl_X5_23 kN_X2 kZ_X2 (ci := 2) rfl (fs := [.int 0, .int 0, .int 0, .int 0, .int 0, .int 0, .null, .null, .null, .null, .null, .null]) (fun j hj => by (have key : ∀ j, j < 12 → defaultValue (tyX2 j) = vp_V [.int 0, .int 0, .int 0, .int 0, .int 0, .int 0, .null, .null, .null, .null, .null, .null] j := by decide +kernel); exact key j hj) (by omega) (by omega) ?_
    refine JI_dup hK dX5_init_96 rfl ?_
    have hkd : kd (198 + 7 * i) = 2 := by (have key : ∀ j, j < 2 → kd (198 + 7 * j) = 2 := by decide +kernel); exact key i hi2
    refine JI_callI hK dX5_init_97 kB_X5_25 kI_X2_init rfl (j := 2) (by decide) (Nat.le_of_ble_eq_true rfl) (by omega) (by omega) (mX2_init hkd (fun k h1 h2 => ?_)) ?_
    · rw [ov_ne _ _ (by omega), ov_ne _ _ (by omega)]
      exact hb k (by omega) (by omega)
    refine JI_aast (N := 2) (ci := 2) (t0 := 2) (r := (RX2, TX2, 12)) hK dX5_init_100 (q := 197) (qv := 198 + 7 * i) (by omega) (by omega) (by rw [ov_eq]) rfl (by rw [ov_ne _ _ (by omega), ov_ne _ _ (by omega), hb _ (by omega) (by omega), lay_2 X h0 hkd]) rfl (vp_in_nI hi2 (by omega)) ?_
    refine JI_iinc (lw := [(0, .ref (X.1 + 0))]) hK dX5_init_101 0 rfl (by decide) (v := nI (i + 1)) (by rw [nI_succ]; rfl) rfl ?_
    refine JI_goto (tgt := 83) hK dX5_init_104 (by decide) ?_
    refine JI_cast (by omega) (by omega) (by omega) ?_ (ih (i + 1) (by omega) hk)
    rw [nI_clamp (by omega), ov_ov]
    have hfun : va_up (fun j => if j < i then some (X.1 + (198 + 7 * j)) else none) i (some (X.1 + (198 + 7 * i))) = fun j => if j < i + 1 then some (X.1 + (198 + 7 * j)) else none := by
      funext j
      unfold va_up
      by_cases e1 : j = i
      · subst e1; simp
      · by_cases e2 : j < i
        · simp [e1, e2, show j < i + 1 by omega]
        · simp [e1, e2, show ¬ j < i + 1 by omega]
    rw [hfun]
set_option maxHeartbeats 2000000 in
theorem mX5_L118 {K : MC} {X : WX} {Z : State → Prop} {b : Nat → va_E} (hK : OkI K X RX5 cX5_init 2 6 277 2087) (hb : ∀ k, 213 ≤ k → k < 276 → b k = lay X h0 k) : ∀ (m i : Nat), i + m = 9 → JI K X 2 Z 275 2069 143 [(1, .int (nI 9)), (0, .ref (X.1 + 0))] [] 276 (ov (ov b 0 (.inr (5, [.ref (X.1 + 1), .ref (X.1 + 18), .ref (X.1 + 20), .ref (X.1 + 27), .ref (X.1 + 197), .ref (X.1 + 212), .null, .int 0]))) 212 (.inl (X.2.2.1 2, 9, .inr (.inr (.inr (.inr (fun j => if j < 9 then some (X.1 + (213 + 7 * j)) else none))))))) → JI K X 2 Z (212 + 7 * i) (1673 + 44 * i) 118 [(1, .int (nI i)), (0, .ref (X.1 + 0))] [] (213 + 7 * i) (ov (ov b 0 (.inr (5, [.ref (X.1 + 1), .ref (X.1 + 18), .ref (X.1 + 20), .ref (X.1 + 27), .ref (X.1 + 197), .ref (X.1 + 212), .null, .int 0]))) 212 (.inl (X.2.2.1 2, 9, .inr (.inr (.inr (.inr (fun j => if j < i then some (X.1 + (213 + 7 * j)) else none))))))) := by
  intro m
  induction m with
  | zero =>
    intro i hi hk
    have hi : i = 9 := by omega
    subst hi
    refine JI_iload_n hK dX5_init_118 0 rfl ?_
    refine JI_bipush hK dX5_init_119 cb_8 ?_
    refine JI_icmp_gt (tgt := 143) hK dX5_init_121 (by decide) (fun _ => hk) (fun q => absurd (by decide) q)
  | succ m ih =>
    intro i hi hk
    have hi2 : i < 9 := by omega
    refine JI_iload_n hK dX5_init_118 0 rfl ?_
    refine JI_bipush hK dX5_init_119 cb_8 ?_
    refine JI_icmp_gt (tgt := 143) hK dX5_init_121 (by decide) (fun q => absurd q (show ¬ nI 8 < nI i from nI_nlt (by omega) (by omega))) (fun _ => ?_)
    refine JI_aload_n hK dX5_init_124 1 rfl ?_
    refine JI_get hK dX5_init_125 inXg5 (q := 0) (by omega) (ci := 5) rfl (j := 5) (by decide) (fs := [.ref (X.1 + 1), .ref (X.1 + 18), .ref (X.1 + 20), .ref (X.1 + 27), .ref (X.1 + 197), .ref (X.1 + 212), .null, .int 0]) (by rw [ov_ne _ _ (by omega), ov_eq]) (v := .ref (X.1 + 212)) rfl kF_X5_41 rfl ?_
    refine JI_iload_n hK dX5_init_128 0 rfl ?_
    refine JI_new hK dX5_init_129 inXg2 tyX2_ok kK_cl_X5_23 kN_X2 kZ_X2 (ci := 2) rfl (fs := [.int 0, .int 0, .int 0, .int 0, .int 0, .int 0, .null, .null, .null, .null, .null, .null]) (fun j hj => by (have key : ∀ j, j < 12 → defaultValue (tyX2 j) = vp_V [.int 0, .int 0, .int 0, .int 0, .int 0, .int 0, .null, .null, .null, .null, .null, .null] j := by decide +kernel); exact key j hj) (by omega) (by omega) ?_
    refine JI_dup hK dX5_init_132 rfl ?_
    have hkd : kd (213 + 7 * i) = 2 := by (have key : ∀ j, j < 9 → kd (213 + 7 * j) = 2 := by decide +kernel); exact key i hi2
    refine JI_callI hK dX5_init_133 kB_X5_25 kI_X2_init rfl (j := 2) (by decide) (Nat.le_of_ble_eq_true rfl) (by omega) (by omega) (mX2_init hkd (fun k h1 h2 => ?_)) ?_
    · rw [ov_ne _ _ (by omega), ov_ne _ _ (by omega)]
      exact hb k (by omega) (by omega)
    refine JI_aast (N := 9) (ci := 2) (t0 := 2) (r := (RX2, TX2, 12)) hK dX5_init_136 (q := 212) (qv := 213 + 7 * i) (by omega) (by omega) (by rw [ov_eq]) rfl (by rw [ov_ne _ _ (by omega), ov_ne _ _ (by omega), hb _ (by omega) (by omega), lay_2 X h0 hkd]) rfl (vp_in_nI hi2 (by omega)) ?_
    refine JI_iinc (lw := [(0, .ref (X.1 + 0))]) hK dX5_init_137 0 rfl (by decide) (v := nI (i + 1)) (by rw [nI_succ]; rfl) rfl ?_
    refine JI_goto (tgt := 118) hK dX5_init_140 (by decide) ?_
    refine JI_cast (by omega) (by omega) (by omega) ?_ (ih (i + 1) (by omega) hk)
    rw [nI_clamp (by omega), ov_ov]
    have hfun : va_up (fun j => if j < i then some (X.1 + (213 + 7 * j)) else none) i (some (X.1 + (213 + 7 * i))) = fun j => if j < i + 1 then some (X.1 + (213 + 7 * j)) else none := by
      funext j
      unfold va_up
      by_cases e1 : j = i
      · subst e1; simp
      · by_cases e2 : j < i
        · simp [e1, e2, show j < i + 1 by omega]
        · simp [e1, e2, show ¬ j < i + 1 by omega]
    rw [hfun]
set_option maxHeartbeats 2000000 in
theorem mX5_init {l : Launch} {X : WX} {b : Nat → va_E} (hb : ∀ k, 0 ≤ k → k < 278 → b k = lay X h0 k) : DoesI l X 6 yX5_init cX5_init 2 277 2087 [.ref (X.1 + 0)] 1 (ov b 0 (.inr (5, [.null, .null, .null, .null, .null, .null, .null, .int 0]))) 278 b := by
  refine DoesI.of (lv := [(0, .ref (X.1 + 0))]) (by decide) rfl (Nat.le_of_ble_eq_true rfl) rfl (fun K hl hK hC => ?_)
  subst hl
  refine JI_aload_n hK dX5_init_0 0 rfl ?_
  refine JI_objInit hK dX5_init_1 kO_X5 kO_i kO_c (by decide) (Nat.le_of_ble_eq_true rfl) ?_
  refine JI_aload_n hK dX5_init_4 0 rfl ?_
  refine JI_bipush hK dX5_init_5 cb_8 ?_
  refine JI_newR (N := 8) hK dX5_init_7 kK_cl_X5_9 (by decide) (by decide) (by decide) (by omega) (by omega) ?_
  refine JI_putF hK dX5_init_10 hC rfl inXg5 tyX5_ok nmX5 (q := 0) (by omega) (ci := 5) rfl (j := 0) (by decide) (fs := [.null, .null, .null, .null, .null, .null, .null, .int 0]) (by rw [ov_ne _ _ (by omega), ov_eq]) (Nat.le_of_ble_eq_true rfl) kF_X5_11 rfl rfl (ty := (.array (.object "TugLines$Row"))) (by decide +kernel) rfl rfl ?_
  refine JI_iconst hK dX5_init_13 ci_0 ?_
  refine JI_istore_n (j := 1) (lw := [(0, .ref (X.1 + 0))]) hK dX5_init_14 rfl (by decide) rfl ?_
  refine JI_cast rfl rfl rfl ?_ (mX5_L15 hK (fun k h1 h2 => hb k (by omega) (by omega)) 8 0 rfl ?_)
  · rw [ov_comm _ _ _ (by decide), ov_ov]
    show ov (ov b 0 (.inr (5, [.ref (X.1 + 1), .null, .null, .null, .null, .null, .null, .int 0]))) 1 _ = _
    simp
  refine JI_same (q := 1) (v := lay X h0 1) ?_ ?_
  · rw [ov_eq, lay_10 X h0 kd_1]
    exact arr_same (fun j hj => by rw [if_pos (show j < 8 from hj)])
  refine JI_eq (hp' := ov b 0 (.inr (5, [.ref (X.1 + 1), .null, .null, .null, .null, .null, .null, .int 0]))) (by rw [ov_ov]; exact ov_id (ov b 0 _) 1 (by rw [ov_ne _ _ (by decide)]; exact hb 1 (by omega) (by omega))) ?_
  refine JI_aload_n hK dX5_init_40 1 rfl ?_
  refine JI_new hK dX5_init_41 inXg4 tyX4_ok kK_cl_X5_16 kN_X4 kZ_X4 (ci := 4) rfl (fs := [.null, .int 0, .int 0, .int 0, .int 0]) (fun j hj => by (have key : ∀ j, j < 5 → defaultValue (tyX4 j) = vp_V [.null, .int 0, .int 0, .int 0, .int 0] j := by decide +kernel); exact key j hj) (by omega) (by omega) ?_
  refine JI_dup hK dX5_init_44 rfl ?_
  refine JI_callI hK dX5_init_45 kB_X5_18 kI_X4_init rfl (j := 2) (by decide) (Nat.le_of_ble_eq_true rfl) (by omega) (by omega) (mX4_init kd_18 (fun k h1 h2 => by rw [ov_ne _ _ (by omega)]; exact hb k (by omega) (by omega))) ?_
  refine JI_putF hK dX5_init_48 hC rfl inXg5 tyX5_ok nmX5 (q := 0) (by omega) (ci := 5) rfl (j := 1) (by decide) (fs := [.ref (X.1 + 1), .null, .null, .null, .null, .null, .null, .int 0]) (by rw [ov_eq]) (Nat.le_of_ble_eq_true rfl) kF_X5_19 rfl rfl (ty := (.object "TugLines$Tape")) (by decide +kernel) rfl rfl ?_
  refine JI_eq (hp' := ov b 0 (.inr (5, [.ref (X.1 + 1), .ref (X.1 + 18), .null, .null, .null, .null, .null, .int 0]))) (by rw [ov_ov]; rfl) ?_
  refine JI_aload_n hK dX5_init_51 1 rfl ?_
  refine JI_new hK dX5_init_52 inXg2 tyX2_ok kK_cl_X5_23 kN_X2 kZ_X2 (ci := 2) rfl (fs := [.int 0, .int 0, .int 0, .int 0, .int 0, .int 0, .null, .null, .null, .null, .null, .null]) (fun j hj => by (have key : ∀ j, j < 12 → defaultValue (tyX2 j) = vp_V [.int 0, .int 0, .int 0, .int 0, .int 0, .int 0, .null, .null, .null, .null, .null, .null] j := by decide +kernel); exact key j hj) (by omega) (by omega) ?_
  refine JI_dup hK dX5_init_55 rfl ?_
  refine JI_callI hK dX5_init_56 kB_X5_25 kI_X2_init rfl (j := 2) (by decide) (Nat.le_of_ble_eq_true rfl) (by omega) (by omega) (mX2_init kd_20 (fun k h1 h2 => by rw [ov_ne _ _ (by omega)]; exact hb k (by omega) (by omega))) ?_
  refine JI_putF hK dX5_init_59 hC rfl inXg5 tyX5_ok nmX5 (q := 0) (by omega) (ci := 5) rfl (j := 2) (by decide) (fs := [.ref (X.1 + 1), .ref (X.1 + 18), .null, .null, .null, .null, .null, .int 0]) (by rw [ov_eq]) (Nat.le_of_ble_eq_true rfl) kF_X5_26 rfl rfl (ty := (.object "TugLines$Estuary")) (by decide +kernel) rfl rfl ?_
  refine JI_eq (hp' := ov b 0 (.inr (5, [.ref (X.1 + 1), .ref (X.1 + 18), .ref (X.1 + 20), .null, .null, .null, .null, .int 0]))) (by rw [ov_ov]; rfl) ?_
  refine JI_aload_n hK dX5_init_62 1 rfl ?_
  refine JI_new hK dX5_init_63 inXg0 tyX0_ok kK_cl_X5_30 kN_X0 kZ_X0 (ci := 0) rfl (fs := [.null, .int 0, .int 0]) (fun j hj => by (have key : ∀ j, j < 3 → defaultValue (tyX0 j) = vp_V [.null, .int 0, .int 0] j := by decide +kernel); exact key j hj) (by omega) (by omega) ?_
  refine JI_dup hK dX5_init_66 rfl ?_
  refine JI_callI hK dX5_init_67 kB_X5_32 kI_X0_init rfl (j := 4) (by decide) (Nat.le_of_ble_eq_true rfl) (by omega) (by omega) (mX0_init (fun k h1 h2 => by rw [ov_ne _ _ (by omega)]; exact hb k (by omega) (by omega))) ?_
  refine JI_putF hK dX5_init_70 hC rfl inXg5 tyX5_ok nmX5 (q := 0) (by omega) (ci := 5) rfl (j := 3) (by decide) (fs := [.ref (X.1 + 1), .ref (X.1 + 18), .ref (X.1 + 20), .null, .null, .null, .null, .int 0]) (by rw [ov_eq]) (Nat.le_of_ble_eq_true rfl) kF_X5_33 rfl rfl (ty := (.object "TugLines$Acts")) (by decide +kernel) rfl rfl ?_
  refine JI_eq (hp' := ov b 0 (.inr (5, [.ref (X.1 + 1), .ref (X.1 + 18), .ref (X.1 + 20), .ref (X.1 + 27), .null, .null, .null, .int 0]))) (by rw [ov_ov]; rfl) ?_
  refine JI_aload_n hK dX5_init_73 1 rfl ?_
  refine JI_iconst hK dX5_init_74 ci_2 ?_
  refine JI_newE (N := 2) hK dX5_init_75 kK_cl_X5_23 (by decide) (by decide) (by decide) (by omega) (by omega) ?_
  refine JI_putF hK dX5_init_78 hC rfl inXg5 tyX5_ok nmX5 (q := 0) (by omega) (ci := 5) rfl (j := 4) (by decide) (fs := [.ref (X.1 + 1), .ref (X.1 + 18), .ref (X.1 + 20), .ref (X.1 + 27), .null, .null, .null, .int 0]) (by rw [ov_ne _ _ (by omega), ov_eq]) (Nat.le_of_ble_eq_true rfl) kF_X5_37 rfl rfl (ty := (.array (.object "TugLines$Estuary"))) (by decide +kernel) rfl rfl ?_
  refine JI_iconst hK dX5_init_81 ci_0 ?_
  refine JI_istore_n (j := 1) (lw := [(0, .ref (X.1 + 0))]) hK dX5_init_82 rfl (by decide) rfl ?_
  refine JI_cast rfl rfl rfl ?_ (mX5_L83 hK (fun k h1 h2 => hb k (by omega) (by omega)) 2 0 rfl ?_)
  · rw [ov_comm _ _ _ (by decide), ov_ov]
    show ov (ov b 0 (.inr (5, [.ref (X.1 + 1), .ref (X.1 + 18), .ref (X.1 + 20), .ref (X.1 + 27), .ref (X.1 + 197), .null, .null, .int 0]))) 197 _ = _
    simp
  refine JI_same (q := 197) (v := lay X h0 197) ?_ ?_
  · rw [ov_eq, lay_9 X h0 kd_197]
    exact arr_same (fun j hj => by rw [if_pos (show j < 2 from hj)])
  refine JI_eq (hp' := ov b 0 (.inr (5, [.ref (X.1 + 1), .ref (X.1 + 18), .ref (X.1 + 20), .ref (X.1 + 27), .ref (X.1 + 197), .null, .null, .int 0]))) (by rw [ov_ov]; exact ov_id (ov b 0 _) 197 (by rw [ov_ne _ _ (by decide)]; exact hb 197 (by omega) (by omega))) ?_
  refine JI_aload_n hK dX5_init_107 1 rfl ?_
  refine JI_bipush hK dX5_init_108 cb_9 ?_
  refine JI_newE (N := 9) hK dX5_init_110 kK_cl_X5_23 (by decide) (by decide) (by decide) (by omega) (by omega) ?_
  refine JI_putF hK dX5_init_113 hC rfl inXg5 tyX5_ok nmX5 (q := 0) (by omega) (ci := 5) rfl (j := 5) (by decide) (fs := [.ref (X.1 + 1), .ref (X.1 + 18), .ref (X.1 + 20), .ref (X.1 + 27), .ref (X.1 + 197), .null, .null, .int 0]) (by rw [ov_ne _ _ (by omega), ov_eq]) (Nat.le_of_ble_eq_true rfl) kF_X5_41 rfl rfl (ty := (.array (.object "TugLines$Estuary"))) (by decide +kernel) rfl rfl ?_
  refine JI_iconst hK dX5_init_116 ci_0 ?_
  refine JI_istore_n (j := 1) (lw := [(0, .ref (X.1 + 0))]) hK dX5_init_117 rfl (by decide) rfl ?_
  refine JI_cast rfl rfl rfl ?_ (mX5_L118 hK (fun k h1 h2 => hb k (by omega) (by omega)) 9 0 rfl ?_)
  · rw [ov_comm _ _ _ (by decide), ov_ov]
    show ov (ov b 0 (.inr (5, [.ref (X.1 + 1), .ref (X.1 + 18), .ref (X.1 + 20), .ref (X.1 + 27), .ref (X.1 + 197), .ref (X.1 + 212), .null, .int 0]))) 212 _ = _
    simp
  refine JI_same (q := 212) (v := lay X h0 212) ?_ ?_
  · rw [ov_eq, lay_9 X h0 kd_212]
    exact arr_same (fun j hj => by rw [if_pos (show j < 9 from hj)])
  refine JI_eq (hp' := ov b 0 (.inr (5, [.ref (X.1 + 1), .ref (X.1 + 18), .ref (X.1 + 20), .ref (X.1 + 27), .ref (X.1 + 197), .ref (X.1 + 212), .null, .int 0]))) (by rw [ov_ov]; exact ov_id (ov b 0 _) 212 (by rw [ov_ne _ _ (by decide)]; exact hb 212 (by omega) (by omega))) ?_
  refine JI_aload_n hK dX5_init_143 1 rfl ?_
  refine JI_new hK dX5_init_144 inXg1 tyX1_ok kK_cl_X5_44 kN_X1 kZ_X1 (ci := 1) rfl (fs := [.null, .int 0]) (fun j hj => by (have key : ∀ j, j < 2 → defaultValue (tyX1 j) = vp_V [.null, .int 0] j := by decide +kernel); exact key j hj) (by omega) (by omega) ?_
  refine JI_dup hK dX5_init_147 rfl ?_
  refine JI_callI hK dX5_init_148 kB_X5_46 kI_X1_init rfl (j := 2) (by decide) (Nat.le_of_ble_eq_true rfl) (by omega) (by omega) (mX1_init kd_276 (fun k h1 h2 => by rw [ov_ne _ _ (by omega)]; exact hb k (by omega) (by omega))) ?_
  refine JI_putF hK dX5_init_151 hC rfl inXg5 tyX5_ok nmX5 (q := 0) (by omega) (ci := 5) rfl (j := 6) (by decide) (fs := [.ref (X.1 + 1), .ref (X.1 + 18), .ref (X.1 + 20), .ref (X.1 + 27), .ref (X.1 + 197), .ref (X.1 + 212), .null, .int 0]) (by rw [ov_eq]) (Nat.le_of_ble_eq_true rfl) kF_X5_47 rfl rfl (ty := (.object "TugLines$Asker")) (by decide +kernel) rfl rfl ?_
  refine JI_eq (hp' := ov b 0 (.inr (5, [.ref (X.1 + 1), .ref (X.1 + 18), .ref (X.1 + 20), .ref (X.1 + 27), .ref (X.1 + 197), .ref (X.1 + 212), .ref (X.1 + 276), .int 0]))) (by rw [ov_ov]; rfl) ?_
  refine JI_eq (hp' := b) (ov_id b 0 (by rw [hb 0 (by omega) (by omega), lay_5 X h0 kd_0, h0_z (by rw [kd_0]; decide) (by decide)])) ?_
  exact JI_ret hK hC dX5_init_154 (by omega) (by omega)
set_option maxHeartbeats 2000000 in
theorem mX6_L103 {K : MC} {X : WX} {Z : State → Prop} {b : Nat → va_E} (hK : OkI K X RX6 cX6_init 2 2 12 1731) (hthis : b 278 = .inr (6, [.ref (X.1 + 279), .ref (X.1 + 280), .ref (X.1 + 281), .ref (X.1 + 282), .int 0, .ref (X.1 + 283), .int 0, .int 0, .int 0, .int 0, .int 0, .int 0, .int 0, .ref (X.1 + 284), .ref (X.1 + 285), .ref (X.1 + 286), .ref (X.1 + 287), .int 0, .ref (X.1 + 288), .ref (X.1 + 289), .ref (X.1 + 290), .int 0])) : ∀ (m i : Nat), i + m = 8 → JI K X 2 Z 12 1731 123 [(1, .int (nI 8)), (0, .ref (X.1 + 278))] [] 291 (ov b 279 (.inl (X.2.2.1 0, 8, .inl (fun j => if j < 8 then -1000000 else 0)))) → JI K X 2 Z 12 1731 103 [(1, .int (nI i)), (0, .ref (X.1 + 278))] [] 291 (ov b 279 (.inl (X.2.2.1 0, 8, .inl (fun j => if j < i then -1000000 else 0)))) := by
  intro m
  induction m with
  | zero =>
    intro i hi hk
    have hi : i = 8 := by omega
    subst hi
    refine JI_iload_n hK dX6_init_103 0 rfl ?_
    refine JI_bipush hK dX6_init_104 cb_8 ?_
    refine JI_icmp_ge (tgt := 123) hK dX6_init_106 (by decide) (fun q => absurd q (by decide)) (fun _ => hk)
  | succ m ih =>
    intro i hi hk
    have hi2 : i < 8 := by omega
    refine JI_iload_n hK dX6_init_103 0 rfl ?_
    refine JI_bipush hK dX6_init_104 cb_8 ?_
    refine JI_icmp_ge (tgt := 123) hK dX6_init_106 (by decide) (fun _ => ?_) (fun q => absurd (show nI i < nI 8 from nI_lt hi2 (by omega)) q)
    refine JI_aload_n hK dX6_init_109 1 rfl ?_
    refine JI_get hK dX6_init_110 inXg6 (q := 278) (by omega) (ci := 6) rfl (j := 0) (by decide) (fs := [.ref (X.1 + 279), .ref (X.1 + 280), .ref (X.1 + 281), .ref (X.1 + 282), .int 0, .ref (X.1 + 283), .int 0, .int 0, .int 0, .int 0, .int 0, .int 0, .int 0, .ref (X.1 + 284), .ref (X.1 + 285), .ref (X.1 + 286), .ref (X.1 + 287), .int 0, .ref (X.1 + 288), .ref (X.1 + 289), .ref (X.1 + 290), .int 0]) (by rw [ov_ne _ _ (by decide)]; exact hthis) (v := .ref (X.1 + 279)) rfl kF_X6_7 rfl ?_
    refine JI_iload_n hK dX6_init_113 0 rfl ?_
    refine JI_ldc hK dX6_init_114 kK_X6_47 ?_
    refine JI_iast (N := 8) hK dX6_init_116 (q := 279) (by omega) (by rw [ov_eq]) (vp_in_nI hi2 (by omega)) ?_
    refine JI_iinc (lw := [(0, .ref (X.1 + 278))]) hK dX6_init_117 0 rfl (by decide) (v := nI (i + 1)) (by rw [nI_succ]; rfl) rfl ?_
    refine JI_goto (tgt := 103) hK dX6_init_120 (by decide) ?_
    refine JI_cast rfl rfl rfl ?_ (ih (i + 1) (by omega) hk)
    rw [nI_clamp (by omega), ov_ov]
    have hfun : upd (fun j => if j < i then (-1000000 : Int32) else 0) i (-1000000) = fun j => if j < i + 1 then -1000000 else 0 := by
      funext j
      unfold upd
      by_cases e1 : j = i
      · subst e1; simp
      · by_cases e2 : j < i
        · simp [e1, e2, show j < i + 1 by omega]
        · simp [e1, e2, show ¬ j < i + 1 by omega]
    rw [hfun]
set_option maxHeartbeats 2000000 in
theorem mX6_init {l : Launch} {X : WX} {b : Nat → va_E} (hb : ∀ k, 278 ≤ k → k < 291 → b k = lay X h0 k) : DoesI l X 2 yX6_init cX6_init 2 12 1731 [.ref (X.1 + 278)] 279 (ov (ov b 279 (.inl (X.2.2.1 0, 8, .inl (fun _ => 0)))) 278 (.inr (6, [.null, .null, .null, .null, .int 0, .null, .int 0, .int 0, .int 0, .int 0, .int 0, .int 0, .int 0, .null, .null, .null, .null, .int 0, .null, .null, .null, .int 0]))) 291 b := by
  refine DoesI.of (lv := [(0, .ref (X.1 + 278))]) (by decide) rfl (Nat.le_of_ble_eq_true rfl) rfl (fun K hl hK hC => ?_)
  subst hl
  let b2 : Nat → va_E := ov b 279 (.inl (X.2.2.1 0, 8, .inl (fun _ => 0)))
  refine JI_aload_n hK dX6_init_0 0 rfl ?_
  refine JI_objInit hK dX6_init_1 kO_X6 kO_i kO_c (by decide) (Nat.le_of_ble_eq_true rfl) ?_
  refine JI_aload_n hK dX6_init_4 0 rfl ?_
  refine JI_bipush hK dX6_init_5 cb_8 ?_
  refine JI_newI (N := 8) hK dX6_init_7 kY_int (by decide) (by decide) (by decide) (by rw [ov_ne _ _ (by decide)]; exact ov_eq _ _ _) (by omega) (by omega) ?_
  refine JI_putF hK dX6_init_9 hC rfl inXg6 tyX6_ok nmX6 (q := 278) (by omega) (ci := 6) rfl (j := 0) (by decide) (fs := [.null, .null, .null, .null, .int 0, .null, .int 0, .int 0, .int 0, .int 0, .int 0, .int 0, .int 0, .null, .null, .null, .null, .int 0, .null, .null, .null, .int 0]) (by rw [ov_eq]) (Nat.le_of_ble_eq_true rfl) kF_X6_7 rfl rfl (ty := (.array .int)) (by decide +kernel) rfl rfl ?_
  refine JI_eq (hp' := ov b2 278 (.inr (6, [.ref (X.1 + 279), .null, .null, .null, .int 0, .null, .int 0, .int 0, .int 0, .int 0, .int 0, .int 0, .int 0, .null, .null, .null, .null, .int 0, .null, .null, .null, .int 0]))) (by rw [ov_ov]; rfl) ?_
  refine JI_aload_n hK dX6_init_12 0 rfl ?_
  refine JI_bipush hK dX6_init_13 cb_8 ?_
  refine JI_newI (N := 8) hK dX6_init_15 kY_int (by decide) (by decide) (by decide) (by rw [ov_ne _ _ (by decide)]; exact (ov_ne _ _ (by decide)).trans ((hb 280 (by omega) (by omega)).trans (h0_7 kd_280 ln_280 (by decide)))) (by omega) (by omega) ?_
  refine JI_putF hK dX6_init_17 hC rfl inXg6 tyX6_ok nmX6 (q := 278) (by omega) (ci := 6) rfl (j := 1) (by decide) (fs := [.ref (X.1 + 279), .null, .null, .null, .int 0, .null, .int 0, .int 0, .int 0, .int 0, .int 0, .int 0, .int 0, .null, .null, .null, .null, .int 0, .null, .null, .null, .int 0]) (by rw [ov_eq]) (Nat.le_of_ble_eq_true rfl) kF_X6_13 rfl rfl (ty := (.array .int)) (by decide +kernel) rfl rfl ?_
  refine JI_eq (hp' := ov b2 278 (.inr (6, [.ref (X.1 + 279), .ref (X.1 + 280), .null, .null, .int 0, .null, .int 0, .int 0, .int 0, .int 0, .int 0, .int 0, .int 0, .null, .null, .null, .null, .int 0, .null, .null, .null, .int 0]))) (by rw [ov_ov]; rfl) ?_
  refine JI_aload_n hK dX6_init_20 0 rfl ?_
  refine JI_sipush hK dX6_init_21 cs_320 ?_
  refine JI_newI (N := 320) hK dX6_init_24 kY_int (by decide) (by decide) (by decide) (by rw [ov_ne _ _ (by decide)]; exact (ov_ne _ _ (by decide)).trans ((hb 281 (by omega) (by omega)).trans (h0_7 kd_281 ln_281 (by decide)))) (by omega) (by omega) ?_
  refine JI_putF hK dX6_init_26 hC rfl inXg6 tyX6_ok nmX6 (q := 278) (by omega) (ci := 6) rfl (j := 2) (by decide) (fs := [.ref (X.1 + 279), .ref (X.1 + 280), .null, .null, .int 0, .null, .int 0, .int 0, .int 0, .int 0, .int 0, .int 0, .int 0, .null, .null, .null, .null, .int 0, .null, .null, .null, .int 0]) (by rw [ov_eq]) (Nat.le_of_ble_eq_true rfl) kF_X6_16 rfl rfl (ty := (.array .int)) (by decide +kernel) rfl rfl ?_
  refine JI_eq (hp' := ov b2 278 (.inr (6, [.ref (X.1 + 279), .ref (X.1 + 280), .ref (X.1 + 281), .null, .int 0, .null, .int 0, .int 0, .int 0, .int 0, .int 0, .int 0, .int 0, .null, .null, .null, .null, .int 0, .null, .null, .null, .int 0]))) (by rw [ov_ov]; rfl) ?_
  refine JI_aload_n hK dX6_init_29 0 rfl ?_
  refine JI_bipush hK dX6_init_30 cb_40 ?_
  refine JI_newI (N := 40) hK dX6_init_32 kY_int (by decide) (by decide) (by decide) (by rw [ov_ne _ _ (by decide)]; exact (ov_ne _ _ (by decide)).trans ((hb 282 (by omega) (by omega)).trans (h0_7 kd_282 ln_282 (by decide)))) (by omega) (by omega) ?_
  refine JI_putF hK dX6_init_34 hC rfl inXg6 tyX6_ok nmX6 (q := 278) (by omega) (ci := 6) rfl (j := 3) (by decide) (fs := [.ref (X.1 + 279), .ref (X.1 + 280), .ref (X.1 + 281), .null, .int 0, .null, .int 0, .int 0, .int 0, .int 0, .int 0, .int 0, .int 0, .null, .null, .null, .null, .int 0, .null, .null, .null, .int 0]) (by rw [ov_eq]) (Nat.le_of_ble_eq_true rfl) kF_X6_19 rfl rfl (ty := (.array .int)) (by decide +kernel) rfl rfl ?_
  refine JI_eq (hp' := ov b2 278 (.inr (6, [.ref (X.1 + 279), .ref (X.1 + 280), .ref (X.1 + 281), .ref (X.1 + 282), .int 0, .null, .int 0, .int 0, .int 0, .int 0, .int 0, .int 0, .int 0, .null, .null, .null, .null, .int 0, .null, .null, .null, .int 0]))) (by rw [ov_ov]; rfl) ?_
  refine JI_aload_n hK dX6_init_37 0 rfl ?_
  refine JI_bipush hK dX6_init_38 cb_90 ?_
  refine JI_newI (N := 90) hK dX6_init_40 kY_int (by decide) (by decide) (by decide) (by rw [ov_ne _ _ (by decide)]; exact (ov_ne _ _ (by decide)).trans ((hb 283 (by omega) (by omega)).trans (h0_7 kd_283 ln_283 (by decide)))) (by omega) (by omega) ?_
  refine JI_putF hK dX6_init_42 hC rfl inXg6 tyX6_ok nmX6 (q := 278) (by omega) (ci := 6) rfl (j := 5) (by decide) (fs := [.ref (X.1 + 279), .ref (X.1 + 280), .ref (X.1 + 281), .ref (X.1 + 282), .int 0, .null, .int 0, .int 0, .int 0, .int 0, .int 0, .int 0, .int 0, .null, .null, .null, .null, .int 0, .null, .null, .null, .int 0]) (by rw [ov_eq]) (Nat.le_of_ble_eq_true rfl) kF_X6_22 rfl rfl (ty := (.array .int)) (by decide +kernel) rfl rfl ?_
  refine JI_eq (hp' := ov b2 278 (.inr (6, [.ref (X.1 + 279), .ref (X.1 + 280), .ref (X.1 + 281), .ref (X.1 + 282), .int 0, .ref (X.1 + 283), .int 0, .int 0, .int 0, .int 0, .int 0, .int 0, .int 0, .null, .null, .null, .null, .int 0, .null, .null, .null, .int 0]))) (by rw [ov_ov]; rfl) ?_
  refine JI_aload_n hK dX6_init_45 0 rfl ?_
  refine JI_bipush hK dX6_init_46 cb_43 ?_
  refine JI_newI (N := 43) hK dX6_init_48 kY_int (by decide) (by decide) (by decide) (by rw [ov_ne _ _ (by decide)]; exact (ov_ne _ _ (by decide)).trans ((hb 284 (by omega) (by omega)).trans (h0_7 kd_284 ln_284 (by decide)))) (by omega) (by omega) ?_
  refine JI_putF hK dX6_init_50 hC rfl inXg6 tyX6_ok nmX6 (q := 278) (by omega) (ci := 6) rfl (j := 13) (by decide) (fs := [.ref (X.1 + 279), .ref (X.1 + 280), .ref (X.1 + 281), .ref (X.1 + 282), .int 0, .ref (X.1 + 283), .int 0, .int 0, .int 0, .int 0, .int 0, .int 0, .int 0, .null, .null, .null, .null, .int 0, .null, .null, .null, .int 0]) (by rw [ov_eq]) (Nat.le_of_ble_eq_true rfl) kF_X6_25 rfl rfl (ty := (.array .int)) (by decide +kernel) rfl rfl ?_
  refine JI_eq (hp' := ov b2 278 (.inr (6, [.ref (X.1 + 279), .ref (X.1 + 280), .ref (X.1 + 281), .ref (X.1 + 282), .int 0, .ref (X.1 + 283), .int 0, .int 0, .int 0, .int 0, .int 0, .int 0, .int 0, .ref (X.1 + 284), .null, .null, .null, .int 0, .null, .null, .null, .int 0]))) (by rw [ov_ov]; rfl) ?_
  refine JI_aload_n hK dX6_init_53 0 rfl ?_
  refine JI_bipush hK dX6_init_54 cb_43 ?_
  refine JI_newI (N := 43) hK dX6_init_56 kY_int (by decide) (by decide) (by decide) (by rw [ov_ne _ _ (by decide)]; exact (ov_ne _ _ (by decide)).trans ((hb 285 (by omega) (by omega)).trans (h0_7 kd_285 ln_285 (by decide)))) (by omega) (by omega) ?_
  refine JI_putF hK dX6_init_58 hC rfl inXg6 tyX6_ok nmX6 (q := 278) (by omega) (ci := 6) rfl (j := 14) (by decide) (fs := [.ref (X.1 + 279), .ref (X.1 + 280), .ref (X.1 + 281), .ref (X.1 + 282), .int 0, .ref (X.1 + 283), .int 0, .int 0, .int 0, .int 0, .int 0, .int 0, .int 0, .ref (X.1 + 284), .null, .null, .null, .int 0, .null, .null, .null, .int 0]) (by rw [ov_eq]) (Nat.le_of_ble_eq_true rfl) kF_X6_28 rfl rfl (ty := (.array .int)) (by decide +kernel) rfl rfl ?_
  refine JI_eq (hp' := ov b2 278 (.inr (6, [.ref (X.1 + 279), .ref (X.1 + 280), .ref (X.1 + 281), .ref (X.1 + 282), .int 0, .ref (X.1 + 283), .int 0, .int 0, .int 0, .int 0, .int 0, .int 0, .int 0, .ref (X.1 + 284), .ref (X.1 + 285), .null, .null, .int 0, .null, .null, .null, .int 0]))) (by rw [ov_ov]; rfl) ?_
  refine JI_aload_n hK dX6_init_61 0 rfl ?_
  refine JI_bipush hK dX6_init_62 cb_43 ?_
  refine JI_newI (N := 43) hK dX6_init_64 kY_int (by decide) (by decide) (by decide) (by rw [ov_ne _ _ (by decide)]; exact (ov_ne _ _ (by decide)).trans ((hb 286 (by omega) (by omega)).trans (h0_7 kd_286 ln_286 (by decide)))) (by omega) (by omega) ?_
  refine JI_putF hK dX6_init_66 hC rfl inXg6 tyX6_ok nmX6 (q := 278) (by omega) (ci := 6) rfl (j := 15) (by decide) (fs := [.ref (X.1 + 279), .ref (X.1 + 280), .ref (X.1 + 281), .ref (X.1 + 282), .int 0, .ref (X.1 + 283), .int 0, .int 0, .int 0, .int 0, .int 0, .int 0, .int 0, .ref (X.1 + 284), .ref (X.1 + 285), .null, .null, .int 0, .null, .null, .null, .int 0]) (by rw [ov_eq]) (Nat.le_of_ble_eq_true rfl) kF_X6_31 rfl rfl (ty := (.array .int)) (by decide +kernel) rfl rfl ?_
  refine JI_eq (hp' := ov b2 278 (.inr (6, [.ref (X.1 + 279), .ref (X.1 + 280), .ref (X.1 + 281), .ref (X.1 + 282), .int 0, .ref (X.1 + 283), .int 0, .int 0, .int 0, .int 0, .int 0, .int 0, .int 0, .ref (X.1 + 284), .ref (X.1 + 285), .ref (X.1 + 286), .null, .int 0, .null, .null, .null, .int 0]))) (by rw [ov_ov]; rfl) ?_
  refine JI_aload_n hK dX6_init_69 0 rfl ?_
  refine JI_sipush hK dX6_init_70 cs_1032 ?_
  refine JI_newI (N := 1032) hK dX6_init_73 kY_int (by decide) (by decide) (by decide) (by rw [ov_ne _ _ (by decide)]; exact (ov_ne _ _ (by decide)).trans ((hb 287 (by omega) (by omega)).trans (h0_7 kd_287 ln_287 (by decide)))) (by omega) (by omega) ?_
  refine JI_putF hK dX6_init_75 hC rfl inXg6 tyX6_ok nmX6 (q := 278) (by omega) (ci := 6) rfl (j := 16) (by decide) (fs := [.ref (X.1 + 279), .ref (X.1 + 280), .ref (X.1 + 281), .ref (X.1 + 282), .int 0, .ref (X.1 + 283), .int 0, .int 0, .int 0, .int 0, .int 0, .int 0, .int 0, .ref (X.1 + 284), .ref (X.1 + 285), .ref (X.1 + 286), .null, .int 0, .null, .null, .null, .int 0]) (by rw [ov_eq]) (Nat.le_of_ble_eq_true rfl) kF_X6_34 rfl rfl (ty := (.array .int)) (by decide +kernel) rfl rfl ?_
  refine JI_eq (hp' := ov b2 278 (.inr (6, [.ref (X.1 + 279), .ref (X.1 + 280), .ref (X.1 + 281), .ref (X.1 + 282), .int 0, .ref (X.1 + 283), .int 0, .int 0, .int 0, .int 0, .int 0, .int 0, .int 0, .ref (X.1 + 284), .ref (X.1 + 285), .ref (X.1 + 286), .ref (X.1 + 287), .int 0, .null, .null, .null, .int 0]))) (by rw [ov_ov]; rfl) ?_
  refine JI_aload_n hK dX6_init_78 0 rfl ?_
  refine JI_bipush hK dX6_init_79 cb_86 ?_
  refine JI_newI (N := 86) hK dX6_init_81 kY_int (by decide) (by decide) (by decide) (by rw [ov_ne _ _ (by decide)]; exact (ov_ne _ _ (by decide)).trans ((hb 288 (by omega) (by omega)).trans (h0_7 kd_288 ln_288 (by decide)))) (by omega) (by omega) ?_
  refine JI_putF hK dX6_init_83 hC rfl inXg6 tyX6_ok nmX6 (q := 278) (by omega) (ci := 6) rfl (j := 18) (by decide) (fs := [.ref (X.1 + 279), .ref (X.1 + 280), .ref (X.1 + 281), .ref (X.1 + 282), .int 0, .ref (X.1 + 283), .int 0, .int 0, .int 0, .int 0, .int 0, .int 0, .int 0, .ref (X.1 + 284), .ref (X.1 + 285), .ref (X.1 + 286), .ref (X.1 + 287), .int 0, .null, .null, .null, .int 0]) (by rw [ov_eq]) (Nat.le_of_ble_eq_true rfl) kF_X6_37 rfl rfl (ty := (.array .int)) (by decide +kernel) rfl rfl ?_
  refine JI_eq (hp' := ov b2 278 (.inr (6, [.ref (X.1 + 279), .ref (X.1 + 280), .ref (X.1 + 281), .ref (X.1 + 282), .int 0, .ref (X.1 + 283), .int 0, .int 0, .int 0, .int 0, .int 0, .int 0, .int 0, .ref (X.1 + 284), .ref (X.1 + 285), .ref (X.1 + 286), .ref (X.1 + 287), .int 0, .ref (X.1 + 288), .null, .null, .int 0]))) (by rw [ov_ov]; rfl) ?_
  refine JI_aload_n hK dX6_init_86 0 rfl ?_
  refine JI_iconst hK dX6_init_87 ci_2 ?_
  refine JI_newZ (N := 2) hK dX6_init_88 kY_bool (by decide) (by decide) (by decide) (by rw [ov_ne _ _ (by decide)]; exact (ov_ne _ _ (by decide)).trans ((hb 289 (by omega) (by omega)).trans (by rw [lay_8 X h0 kd_289, ln_289, h0_z (by rw [kd_289]; decide) (by decide)]))) (by omega) (by omega) ?_
  refine JI_putF hK dX6_init_90 hC rfl inXg6 tyX6_ok nmX6 (q := 278) (by omega) (ci := 6) rfl (j := 19) (by decide) (fs := [.ref (X.1 + 279), .ref (X.1 + 280), .ref (X.1 + 281), .ref (X.1 + 282), .int 0, .ref (X.1 + 283), .int 0, .int 0, .int 0, .int 0, .int 0, .int 0, .int 0, .ref (X.1 + 284), .ref (X.1 + 285), .ref (X.1 + 286), .ref (X.1 + 287), .int 0, .ref (X.1 + 288), .null, .null, .int 0]) (by rw [ov_eq]) (Nat.le_of_ble_eq_true rfl) kF_X6_40 rfl rfl (ty := (.array .boolean)) (by decide +kernel) rfl rfl ?_
  refine JI_eq (hp' := ov b2 278 (.inr (6, [.ref (X.1 + 279), .ref (X.1 + 280), .ref (X.1 + 281), .ref (X.1 + 282), .int 0, .ref (X.1 + 283), .int 0, .int 0, .int 0, .int 0, .int 0, .int 0, .int 0, .ref (X.1 + 284), .ref (X.1 + 285), .ref (X.1 + 286), .ref (X.1 + 287), .int 0, .ref (X.1 + 288), .ref (X.1 + 289), .null, .int 0]))) (by rw [ov_ov]; rfl) ?_
  refine JI_aload_n hK dX6_init_93 0 rfl ?_
  refine JI_bipush hK dX6_init_94 cb_16 ?_
  refine JI_newI (N := 16) hK dX6_init_96 kY_int (by decide) (by decide) (by decide) (by rw [ov_ne _ _ (by decide)]; exact (ov_ne _ _ (by decide)).trans ((hb 290 (by omega) (by omega)).trans (h0_7 kd_290 ln_290 (by decide)))) (by omega) (by omega) ?_
  refine JI_putF hK dX6_init_98 hC rfl inXg6 tyX6_ok nmX6 (q := 278) (by omega) (ci := 6) rfl (j := 20) (by decide) (fs := [.ref (X.1 + 279), .ref (X.1 + 280), .ref (X.1 + 281), .ref (X.1 + 282), .int 0, .ref (X.1 + 283), .int 0, .int 0, .int 0, .int 0, .int 0, .int 0, .int 0, .ref (X.1 + 284), .ref (X.1 + 285), .ref (X.1 + 286), .ref (X.1 + 287), .int 0, .ref (X.1 + 288), .ref (X.1 + 289), .null, .int 0]) (by rw [ov_eq]) (Nat.le_of_ble_eq_true rfl) kF_X6_44 rfl rfl (ty := (.array .int)) (by decide +kernel) rfl rfl ?_
  refine JI_eq (hp' := ov b2 278 (.inr (6, [.ref (X.1 + 279), .ref (X.1 + 280), .ref (X.1 + 281), .ref (X.1 + 282), .int 0, .ref (X.1 + 283), .int 0, .int 0, .int 0, .int 0, .int 0, .int 0, .int 0, .ref (X.1 + 284), .ref (X.1 + 285), .ref (X.1 + 286), .ref (X.1 + 287), .int 0, .ref (X.1 + 288), .ref (X.1 + 289), .ref (X.1 + 290), .int 0]))) (by rw [ov_ov]; rfl) ?_
  refine JI_eq (hp' := b2) (ov_id b2 278 ((ov_ne _ _ (by decide)).trans (by rw [hb 278 (by omega) (by omega), lay_6 X h0 kd_278, h0_z (by rw [kd_278]; decide) (by decide)]))) ?_
  refine JI_iconst hK dX6_init_101 ci_0 ?_
  refine JI_istore_n (j := 1) (lw := [(0, .ref (X.1 + 278))]) hK dX6_init_102 rfl (by decide) rfl ?_
  refine JI_cast rfl rfl rfl ?_ (mX6_L103 hK (b := b) ?_ 8 0 rfl ?_)
  · simp [b2]
  · rw [hb 278 (by omega) (by omega), lay_6 X h0 kd_278, h0_z (by rw [kd_278]; decide) (by decide)]
  · refine JI_same (q := 279) (v := lay X h0 279) ?_ ?_
    · rw [ov_eq, lay_7 X h0 kd_279, ln_279]
      exact arr_sameI (fun j hj => by rw [if_pos hj]; simp [h0, kd_279])
    · refine JI_eq (hp' := b) (by rw [ov_ov]; exact ov_id b 279 (hb 279 (by omega) (by omega))) ?_
      exact JI_ret hK hC dX6_init_123 (by omega) (by omega)
