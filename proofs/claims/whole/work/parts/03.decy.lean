theorem dX9_init_0 : decode cX9_init 0 = .ok (.aload_n 0, 1) := by decide +kernel
theorem dX9_init_1 : decode cX9_init 1 = .ok (.invokespecial 1, 3) := by decide +kernel
theorem dX9_init_4 : decode cX9_init 4 = .ok (.aload_n 0, 1) := by decide +kernel
theorem dX9_init_5 : decode cX9_init 5 = .ok (.sipush 1407, 3) := by decide +kernel
theorem dX9_init_8 : decode cX9_init 8 = .ok (.newarray .int, 2) := by decide +kernel
theorem dX9_init_10 : decode cX9_init 10 = .ok (.putfield 7, 3) := by decide +kernel
theorem dX9_init_13 : decode cX9_init 13 = .ok (.aload_n 0, 1) := by decide +kernel
theorem dX9_init_14 : decode cX9_init 14 = .ok (.sipush 1407, 3) := by decide +kernel
theorem dX9_init_17 : decode cX9_init 17 = .ok (.newarray .int, 2) := by decide +kernel
theorem dX9_init_19 : decode cX9_init 19 = .ok (.putfield 13, 3) := by decide +kernel
theorem dX9_init_22 : decode cX9_init 22 = .ok (.aload_n 0, 1) := by decide +kernel
theorem dX9_init_23 : decode cX9_init 23 = .ok (.sipush 8442, 3) := by decide +kernel
theorem dX9_init_26 : decode cX9_init 26 = .ok (.newarray .int, 2) := by decide +kernel
theorem dX9_init_28 : decode cX9_init 28 = .ok (.putfield 16, 3) := by decide +kernel
theorem dX9_init_31 : decode cX9_init 31 = .ok (.aload_n 0, 1) := by decide +kernel
theorem dX9_init_32 : decode cX9_init 32 = .ok (.sipush 2814, 3) := by decide +kernel
theorem dX9_init_35 : decode cX9_init 35 = .ok (.newarray .int, 2) := by decide +kernel
theorem dX9_init_37 : decode cX9_init 37 = .ok (.putfield 19, 3) := by decide +kernel
theorem dX9_init_40 : decode cX9_init 40 = .ok (.aload_n 0, 1) := by decide +kernel
theorem dX9_init_41 : decode cX9_init 41 = .ok (.iconst 2, 1) := by decide +kernel
theorem dX9_init_42 : decode cX9_init 42 = .ok (.newarray .boolean, 2) := by decide +kernel
theorem dX9_init_44 : decode cX9_init 44 = .ok (.putfield 22, 3) := by decide +kernel
theorem dX9_init_47 : decode cX9_init 47 = .ok (.aload_n 0, 1) := by decide +kernel
theorem dX9_init_48 : decode cX9_init 48 = .ok (.bipush 64, 2) := by decide +kernel
theorem dX9_init_50 : decode cX9_init 50 = .ok (.newarray .int, 2) := by decide +kernel
theorem dX9_init_52 : decode cX9_init 52 = .ok (.putfield 26, 3) := by decide +kernel
theorem dX9_init_55 : decode cX9_init 55 = .ok (.aload_n 0, 1) := by decide +kernel
theorem dX9_init_56 : decode cX9_init 56 = .ok (.sipush 150, 3) := by decide +kernel
theorem dX9_init_59 : decode cX9_init 59 = .ok (.newarray .int, 2) := by decide +kernel
theorem dX9_init_61 : decode cX9_init 61 = .ok (.putfield 29, 3) := by decide +kernel
theorem dX9_init_64 : decode cX9_init 64 = .ok (.aload_n 0, 1) := by decide +kernel
theorem dX9_init_65 : decode cX9_init 65 = .ok (.sipush 150, 3) := by decide +kernel
theorem dX9_init_68 : decode cX9_init 68 = .ok (.newarray .int, 2) := by decide +kernel
theorem dX9_init_70 : decode cX9_init 70 = .ok (.putfield 32, 3) := by decide +kernel
theorem dX9_init_73 : decode cX9_init 73 = .ok (.aload_n 0, 1) := by decide +kernel
theorem dX9_init_74 : decode cX9_init 74 = .ok (.sipush 240, 3) := by decide +kernel
theorem dX9_init_77 : decode cX9_init 77 = .ok (.newarray .boolean, 2) := by decide +kernel
theorem dX9_init_79 : decode cX9_init 79 = .ok (.putfield 35, 3) := by decide +kernel
theorem dX9_init_82 : decode cX9_init 82 = .ok (.aload_n 0, 1) := by decide +kernel
theorem dX9_init_83 : decode cX9_init 83 = .ok (.sipush 150, 3) := by decide +kernel
theorem dX9_init_86 : decode cX9_init 86 = .ok (.newarray .int, 2) := by decide +kernel
theorem dX9_init_88 : decode cX9_init 88 = .ok (.putfield 38, 3) := by decide +kernel
theorem dX9_init_91 : decode cX9_init 91 = .ok (.aload_n 0, 1) := by decide +kernel
theorem dX9_init_92 : decode cX9_init 92 = .ok (.sipush 480, 3) := by decide +kernel
theorem dX9_init_95 : decode cX9_init 95 = .ok (.newarray .boolean, 2) := by decide +kernel
theorem dX9_init_97 : decode cX9_init 97 = .ok (.putfield 41, 3) := by decide +kernel
theorem dX9_init_100 : decode cX9_init 100 = .ok (.aload_n 0, 1) := by decide +kernel
theorem dX9_init_101 : decode cX9_init 101 = .ok (.sipush 150, 3) := by decide +kernel
theorem dX9_init_104 : decode cX9_init 104 = .ok (.newarray .int, 2) := by decide +kernel
theorem dX9_init_106 : decode cX9_init 106 = .ok (.putfield 44, 3) := by decide +kernel
theorem dX9_init_109 : decode cX9_init 109 = .ok (.aload_n 0, 1) := by decide +kernel
theorem dX9_init_110 : decode cX9_init 110 = .ok (.getfield 7, 3) := by decide +kernel
theorem dX9_init_113 : decode cX9_init 113 = .ok (.iconst 0, 1) := by decide +kernel
theorem dX9_init_114 : decode cX9_init 114 = .ok (.iconst 2, 1) := by decide +kernel
theorem dX9_init_115 : decode cX9_init 115 = .ok (.iastore, 1) := by decide +kernel
theorem dX9_init_116 : decode cX9_init 116 = .ok (.aload_n 0, 1) := by decide +kernel
theorem dX9_init_117 : decode cX9_init 117 = .ok (.getfield 7, 3) := by decide +kernel
theorem dX9_init_120 : decode cX9_init 120 = .ok (.iconst 1, 1) := by decide +kernel
theorem dX9_init_121 : decode cX9_init 121 = .ok (.bipush 6, 2) := by decide +kernel
theorem dX9_init_123 : decode cX9_init 123 = .ok (.iastore, 1) := by decide +kernel
theorem dX9_init_124 : decode cX9_init 124 = .ok (.aload_n 0, 1) := by decide +kernel
theorem dX9_init_125 : decode cX9_init 125 = .ok (.getfield 7, 3) := by decide +kernel
theorem dX9_init_128 : decode cX9_init 128 = .ok (.iconst 2, 1) := by decide +kernel
theorem dX9_init_129 : decode cX9_init 129 = .ok (.iconst 3, 1) := by decide +kernel
theorem dX9_init_130 : decode cX9_init 130 = .ok (.iastore, 1) := by decide +kernel
theorem dX9_init_131 : decode cX9_init 131 = .ok (.aload_n 0, 1) := by decide +kernel
theorem dX9_init_132 : decode cX9_init 132 = .ok (.getfield 7, 3) := by decide +kernel
theorem dX9_init_135 : decode cX9_init 135 = .ok (.iconst 3, 1) := by decide +kernel
theorem dX9_init_136 : decode cX9_init 136 = .ok (.iconst 5, 1) := by decide +kernel
theorem dX9_init_137 : decode cX9_init 137 = .ok (.iastore, 1) := by decide +kernel
theorem dX9_init_138 : decode cX9_init 138 = .ok (.aload_n 0, 1) := by decide +kernel
theorem dX9_init_139 : decode cX9_init 139 = .ok (.invokevirtual 47, 3) := by decide +kernel
theorem dX9_init_142 : decode cX9_init 142 = .ok (.aload_n 0, 1) := by decide +kernel
theorem dX9_init_143 : decode cX9_init 143 = .ok (.getfield 7, 3) := by decide +kernel
theorem dX9_init_146 : decode cX9_init 146 = .ok (.iconst 4, 1) := by decide +kernel
theorem dX9_init_147 : decode cX9_init 147 = .ok (.bipush 20, 2) := by decide +kernel
theorem dX9_init_149 : decode cX9_init 149 = .ok (.iastore, 1) := by decide +kernel
theorem dX9_init_150 : decode cX9_init 150 = .ok (.iconst 0, 1) := by decide +kernel
theorem dX9_init_151 : decode cX9_init 151 = .ok (.istore_n 1, 1) := by decide +kernel
theorem dX9_init_152 : decode cX9_init 152 = .ok (.iload_n 1, 1) := by decide +kernel
theorem dX9_init_153 : decode cX9_init 153 = .ok (.bipush 20, 2) := by decide +kernel
theorem dX9_init_155 : decode cX9_init 155 = .ok (.if_icmp .ge 21, 3) := by decide +kernel
theorem dX9_init_158 : decode cX9_init 158 = .ok (.aload_n 0, 1) := by decide +kernel
theorem dX9_init_159 : decode cX9_init 159 = .ok (.getfield 7, 3) := by decide +kernel
theorem dX9_init_162 : decode cX9_init 162 = .ok (.iconst 5, 1) := by decide +kernel
theorem dX9_init_163 : decode cX9_init 163 = .ok (.iload_n 1, 1) := by decide +kernel
theorem dX9_init_164 : decode cX9_init 164 = .ok (.iadd, 1) := by decide +kernel
theorem dX9_init_165 : decode cX9_init 165 = .ok (.bipush 120, 2) := by decide +kernel
theorem dX9_init_167 : decode cX9_init 167 = .ok (.iload_n 1, 1) := by decide +kernel
theorem dX9_init_168 : decode cX9_init 168 = .ok (.iadd, 1) := by decide +kernel
theorem dX9_init_169 : decode cX9_init 169 = .ok (.iastore, 1) := by decide +kernel
theorem dX9_init_170 : decode cX9_init 170 = .ok (.iinc 1 1, 3) := by decide +kernel
theorem dX9_init_173 : decode cX9_init 173 = .ok (.goto (-21), 3) := by decide +kernel
theorem dX9_init_176 : decode cX9_init 176 = .ok (.return_, 1) := by decide +kernel
theorem dX9_begin_0 : decode cX9_begin 0 = .ok (.iconst 4, 1) := by decide +kernel
theorem dX9_begin_1 : decode cX9_begin 1 = .ok (.istore_n 1, 1) := by decide +kernel
theorem dX9_begin_2 : decode cX9_begin 2 = .ok (.iload_n 1, 1) := by decide +kernel
theorem dX9_begin_3 : decode cX9_begin 3 = .ok (.sipush 1407, 3) := by decide +kernel
theorem dX9_begin_6 : decode cX9_begin 6 = .ok (.if_icmp .ge 16, 3) := by decide +kernel
theorem dX9_begin_9 : decode cX9_begin 9 = .ok (.aload_n 0, 1) := by decide +kernel
theorem dX9_begin_10 : decode cX9_begin 10 = .ok (.getfield 7, 3) := by decide +kernel
theorem dX9_begin_13 : decode cX9_begin 13 = .ok (.iload_n 1, 1) := by decide +kernel
theorem dX9_begin_14 : decode cX9_begin 14 = .ok (.iconst 0, 1) := by decide +kernel
theorem dX9_begin_15 : decode cX9_begin 15 = .ok (.iastore, 1) := by decide +kernel
theorem dX9_begin_16 : decode cX9_begin 16 = .ok (.iinc 1 1, 3) := by decide +kernel
theorem dX9_begin_19 : decode cX9_begin 19 = .ok (.goto (-17), 3) := by decide +kernel
theorem dX9_begin_22 : decode cX9_begin 22 = .ok (.iconst 0, 1) := by decide +kernel
theorem dX9_begin_23 : decode cX9_begin 23 = .ok (.istore_n 1, 1) := by decide +kernel
theorem dX9_begin_24 : decode cX9_begin 24 = .ok (.iload_n 1, 1) := by decide +kernel
theorem dX9_begin_25 : decode cX9_begin 25 = .ok (.sipush 240, 3) := by decide +kernel
theorem dX9_begin_28 : decode cX9_begin 28 = .ok (.if_icmp .ge 21, 3) := by decide +kernel
theorem dX9_begin_31 : decode cX9_begin 31 = .ok (.aload_n 0, 1) := by decide +kernel
theorem dX9_begin_32 : decode cX9_begin 32 = .ok (.getfield 7, 3) := by decide +kernel
theorem dX9_begin_35 : decode cX9_begin 35 = .ok (.sipush 1115, 3) := by decide +kernel
theorem dX9_begin_38 : decode cX9_begin 38 = .ok (.iload_n 1, 1) := by decide +kernel
theorem dX9_begin_39 : decode cX9_begin 39 = .ok (.iadd, 1) := by decide +kernel
theorem dX9_begin_40 : decode cX9_begin 40 = .ok (.bipush (-6), 2) := by decide +kernel
theorem dX9_begin_42 : decode cX9_begin 42 = .ok (.iastore, 1) := by decide +kernel
theorem dX9_begin_43 : decode cX9_begin 43 = .ok (.iinc 1 1, 3) := by decide +kernel
theorem dX9_begin_46 : decode cX9_begin 46 = .ok (.goto (-22), 3) := by decide +kernel
theorem dX9_begin_49 : decode cX9_begin 49 = .ok (.return_, 1) := by decide +kernel
theorem dX9_in_0 : decode cX9_in 0 = .ok (.iload_n 0, 1) := by decide +kernel
theorem dX9_in_1 : decode cX9_in 1 = .ok (.iload_n 1, 1) := by decide +kernel
theorem dX9_in_2 : decode cX9_in 2 = .ok (.if_icmp .lt 12, 3) := by decide +kernel
theorem dX9_in_5 : decode cX9_in 5 = .ok (.iload_n 0, 1) := by decide +kernel
theorem dX9_in_6 : decode cX9_in 6 = .ok (.iload_n 2, 1) := by decide +kernel
theorem dX9_in_7 : decode cX9_in 7 = .ok (.if_icmp .gt 7, 3) := by decide +kernel
theorem dX9_in_10 : decode cX9_in 10 = .ok (.iconst 1, 1) := by decide +kernel
theorem dX9_in_11 : decode cX9_in 11 = .ok (.goto 4, 3) := by decide +kernel
theorem dX9_in_14 : decode cX9_in 14 = .ok (.iconst 0, 1) := by decide +kernel
theorem dX9_in_15 : decode cX9_in 15 = .ok (.ireturn, 1) := by decide +kernel
theorem dX9_isCell_0 : decode cX9_isCell 0 = .ok (.iload_n 0, 1) := by decide +kernel
theorem dX9_isCell_1 : decode cX9_isCell 1 = .ok (.iconst 0, 1) := by decide +kernel
theorem dX9_isCell_2 : decode cX9_isCell 2 = .ok (.bipush 19, 2) := by decide +kernel
theorem dX9_isCell_4 : decode cX9_isCell 4 = .ok (.invokestatic 50, 3) := by decide +kernel
theorem dX9_isCell_7 : decode cX9_isCell 7 = .ok (.ifCond .eq 17, 3) := by decide +kernel
theorem dX9_isCell_10 : decode cX9_isCell 10 = .ok (.iload_n 1, 1) := by decide +kernel
theorem dX9_isCell_11 : decode cX9_isCell 11 = .ok (.iconst 0, 1) := by decide +kernel
theorem dX9_isCell_12 : decode cX9_isCell 12 = .ok (.bipush 11, 2) := by decide +kernel
theorem dX9_isCell_14 : decode cX9_isCell 14 = .ok (.invokestatic 50, 3) := by decide +kernel
theorem dX9_isCell_17 : decode cX9_isCell 17 = .ok (.ifCond .eq 7, 3) := by decide +kernel
theorem dX9_isCell_20 : decode cX9_isCell 20 = .ok (.iconst 1, 1) := by decide +kernel
theorem dX9_isCell_21 : decode cX9_isCell 21 = .ok (.goto 4, 3) := by decide +kernel
theorem dX9_isCell_24 : decode cX9_isCell 24 = .ok (.iconst 0, 1) := by decide +kernel
theorem dX9_isCell_25 : decode cX9_isCell 25 = .ok (.ireturn, 1) := by decide +kernel
theorem dX9_know_0 : decode cX9_know 0 = .ok (.aload_n 0, 1) := by decide +kernel
theorem dX9_know_1 : decode cX9_know 1 = .ok (.getfield 54, 3) := by decide +kernel
theorem dX9_know_4 : decode cX9_know 4 = .ok (.bipush 6, 2) := by decide +kernel
theorem dX9_know_6 : decode cX9_know 6 = .ok (.if_icmp .ne 44, 3) := by decide +kernel
theorem dX9_know_9 : decode cX9_know 9 = .ok (.iconst 0, 1) := by decide +kernel
theorem dX9_know_10 : decode cX9_know 10 = .ok (.istore_n 1, 1) := by decide +kernel
theorem dX9_know_11 : decode cX9_know 11 = .ok (.iload_n 1, 1) := by decide +kernel
theorem dX9_know_12 : decode cX9_know 12 = .ok (.sipush 7035, 3) := by decide +kernel
theorem dX9_know_15 : decode cX9_know 15 = .ok (.if_icmp .ge 25, 3) := by decide +kernel
theorem dX9_know_18 : decode cX9_know 18 = .ok (.aload_n 0, 1) := by decide +kernel
theorem dX9_know_19 : decode cX9_know 19 = .ok (.getfield 16, 3) := by decide +kernel
theorem dX9_know_22 : decode cX9_know 22 = .ok (.iload_n 1, 1) := by decide +kernel
theorem dX9_know_23 : decode cX9_know 23 = .ok (.aload_n 0, 1) := by decide +kernel
theorem dX9_know_24 : decode cX9_know 24 = .ok (.getfield 16, 3) := by decide +kernel
theorem dX9_know_27 : decode cX9_know 27 = .ok (.sipush 1407, 3) := by decide +kernel
theorem dX9_know_30 : decode cX9_know 30 = .ok (.iload_n 1, 1) := by decide +kernel
theorem dX9_know_31 : decode cX9_know 31 = .ok (.iadd, 1) := by decide +kernel
theorem dX9_know_32 : decode cX9_know 32 = .ok (.iaload, 1) := by decide +kernel
theorem dX9_know_33 : decode cX9_know 33 = .ok (.iastore, 1) := by decide +kernel
theorem dX9_know_34 : decode cX9_know 34 = .ok (.iinc 1 1, 3) := by decide +kernel
theorem dX9_know_37 : decode cX9_know 37 = .ok (.goto (-26), 3) := by decide +kernel
theorem dX9_know_40 : decode cX9_know 40 = .ok (.aload_n 0, 1) := by decide +kernel
theorem dX9_know_41 : decode cX9_know 41 = .ok (.dup, 1) := by decide +kernel
theorem dX9_know_42 : decode cX9_know 42 = .ok (.getfield 54, 3) := by decide +kernel
theorem dX9_know_45 : decode cX9_know 45 = .ok (.iconst 1, 1) := by decide +kernel
theorem dX9_know_46 : decode cX9_know 46 = .ok (.isub, 1) := by decide +kernel
theorem dX9_know_47 : decode cX9_know 47 = .ok (.putfield 54, 3) := by decide +kernel
theorem dX9_know_50 : decode cX9_know 50 = .ok (.iconst 0, 1) := by decide +kernel
theorem dX9_know_51 : decode cX9_know 51 = .ok (.istore_n 1, 1) := by decide +kernel
theorem dX9_know_52 : decode cX9_know 52 = .ok (.iload_n 1, 1) := by decide +kernel
theorem dX9_know_53 : decode cX9_know 53 = .ok (.sipush 1407, 3) := by decide +kernel
theorem dX9_know_56 : decode cX9_know 56 = .ok (.if_icmp .ge 30, 3) := by decide +kernel
theorem dX9_know_59 : decode cX9_know 59 = .ok (.aload_n 0, 1) := by decide +kernel
theorem dX9_know_60 : decode cX9_know 60 = .ok (.getfield 16, 3) := by decide +kernel
theorem dX9_know_63 : decode cX9_know 63 = .ok (.sipush 1407, 3) := by decide +kernel
theorem dX9_know_66 : decode cX9_know 66 = .ok (.aload_n 0, 1) := by decide +kernel
theorem dX9_know_67 : decode cX9_know 67 = .ok (.getfield 54, 3) := by decide +kernel
theorem dX9_know_70 : decode cX9_know 70 = .ok (.imul, 1) := by decide +kernel
theorem dX9_know_71 : decode cX9_know 71 = .ok (.iload_n 1, 1) := by decide +kernel
theorem dX9_know_72 : decode cX9_know 72 = .ok (.iadd, 1) := by decide +kernel
theorem dX9_know_73 : decode cX9_know 73 = .ok (.aload_n 0, 1) := by decide +kernel
theorem dX9_know_74 : decode cX9_know 74 = .ok (.getfield 7, 3) := by decide +kernel
theorem dX9_know_77 : decode cX9_know 77 = .ok (.iload_n 1, 1) := by decide +kernel
theorem dX9_know_78 : decode cX9_know 78 = .ok (.iaload, 1) := by decide +kernel
theorem dX9_know_79 : decode cX9_know 79 = .ok (.iastore, 1) := by decide +kernel
theorem dX9_know_80 : decode cX9_know 80 = .ok (.iinc 1 1, 3) := by decide +kernel
theorem dX9_know_83 : decode cX9_know 83 = .ok (.goto (-31), 3) := by decide +kernel
theorem dX9_know_86 : decode cX9_know 86 = .ok (.aload_n 0, 1) := by decide +kernel
theorem dX9_know_87 : decode cX9_know 87 = .ok (.dup, 1) := by decide +kernel
theorem dX9_know_88 : decode cX9_know 88 = .ok (.getfield 54, 3) := by decide +kernel
theorem dX9_know_91 : decode cX9_know 91 = .ok (.iconst 1, 1) := by decide +kernel
theorem dX9_know_92 : decode cX9_know 92 = .ok (.iadd, 1) := by decide +kernel
theorem dX9_know_93 : decode cX9_know 93 = .ok (.putfield 54, 3) := by decide +kernel
theorem dX9_know_96 : decode cX9_know 96 = .ok (.return_, 1) := by decide +kernel
theorem dX9_putAside_0 : decode cX9_putAside 0 = .ok (.iconst 0, 1) := by decide +kernel
theorem dX9_putAside_1 : decode cX9_putAside 1 = .ok (.istore_n 1, 1) := by decide +kernel
theorem dX9_putAside_2 : decode cX9_putAside 2 = .ok (.iload_n 1, 1) := by decide +kernel
theorem dX9_putAside_3 : decode cX9_putAside 3 = .ok (.sipush 1407, 3) := by decide +kernel
theorem dX9_putAside_6 : decode cX9_putAside 6 = .ok (.if_icmp .ge 21, 3) := by decide +kernel
theorem dX9_putAside_9 : decode cX9_putAside 9 = .ok (.aload_n 0, 1) := by decide +kernel
theorem dX9_putAside_10 : decode cX9_putAside 10 = .ok (.getfield 13, 3) := by decide +kernel
theorem dX9_putAside_13 : decode cX9_putAside 13 = .ok (.iload_n 1, 1) := by decide +kernel
theorem dX9_putAside_14 : decode cX9_putAside 14 = .ok (.aload_n 0, 1) := by decide +kernel
theorem dX9_putAside_15 : decode cX9_putAside 15 = .ok (.getfield 7, 3) := by decide +kernel
theorem dX9_putAside_18 : decode cX9_putAside 18 = .ok (.iload_n 1, 1) := by decide +kernel
theorem dX9_putAside_19 : decode cX9_putAside 19 = .ok (.iaload, 1) := by decide +kernel
theorem dX9_putAside_20 : decode cX9_putAside 20 = .ok (.iastore, 1) := by decide +kernel
theorem dX9_putAside_21 : decode cX9_putAside 21 = .ok (.iinc 1 1, 3) := by decide +kernel
theorem dX9_putAside_24 : decode cX9_putAside 24 = .ok (.goto (-22), 3) := by decide +kernel
theorem dX9_putAside_27 : decode cX9_putAside 27 = .ok (.return_, 1) := by decide +kernel
theorem dX9_putBack_0 : decode cX9_putBack 0 = .ok (.iconst 0, 1) := by decide +kernel
theorem dX9_putBack_1 : decode cX9_putBack 1 = .ok (.istore_n 1, 1) := by decide +kernel
theorem dX9_putBack_2 : decode cX9_putBack 2 = .ok (.iload_n 1, 1) := by decide +kernel
theorem dX9_putBack_3 : decode cX9_putBack 3 = .ok (.sipush 1407, 3) := by decide +kernel
theorem dX9_putBack_6 : decode cX9_putBack 6 = .ok (.if_icmp .ge 21, 3) := by decide +kernel
theorem dX9_putBack_9 : decode cX9_putBack 9 = .ok (.aload_n 0, 1) := by decide +kernel
theorem dX9_putBack_10 : decode cX9_putBack 10 = .ok (.getfield 7, 3) := by decide +kernel
theorem dX9_putBack_13 : decode cX9_putBack 13 = .ok (.iload_n 1, 1) := by decide +kernel
theorem dX9_putBack_14 : decode cX9_putBack 14 = .ok (.aload_n 0, 1) := by decide +kernel
theorem dX9_putBack_15 : decode cX9_putBack 15 = .ok (.getfield 13, 3) := by decide +kernel
theorem dX9_putBack_18 : decode cX9_putBack 18 = .ok (.iload_n 1, 1) := by decide +kernel
theorem dX9_putBack_19 : decode cX9_putBack 19 = .ok (.iaload, 1) := by decide +kernel
theorem dX9_putBack_20 : decode cX9_putBack 20 = .ok (.iastore, 1) := by decide +kernel
theorem dX9_putBack_21 : decode cX9_putBack 21 = .ok (.iinc 1 1, 3) := by decide +kernel
theorem dX9_putBack_24 : decode cX9_putBack 24 = .ok (.goto (-22), 3) := by decide +kernel
theorem dX9_putBack_27 : decode cX9_putBack 27 = .ok (.return_, 1) := by decide +kernel
theorem dX9_stepped_0 : decode cX9_stepped 0 = .ok (.iload_n 0, 1) := by decide +kernel
theorem dX9_stepped_1 : decode cX9_stepped 1 = .ok (.bipush 20, 2) := by decide +kernel
theorem dX9_stepped_3 : decode cX9_stepped 3 = .ok (.irem, 1) := by decide +kernel
theorem dX9_stepped_4 : decode cX9_stepped 4 = .ok (.iload_n 1, 1) := by decide +kernel
theorem dX9_stepped_5 : decode cX9_stepped 5 = .ok (.ifCond .ne 7, 3) := by decide +kernel
theorem dX9_stepped_8 : decode cX9_stepped 8 = .ok (.iconst 1, 1) := by decide +kernel
theorem dX9_stepped_9 : decode cX9_stepped 9 = .ok (.goto 13, 3) := by decide +kernel
theorem dX9_stepped_12 : decode cX9_stepped 12 = .ok (.iload_n 1, 1) := by decide +kernel
theorem dX9_stepped_13 : decode cX9_stepped 13 = .ok (.iconst 2, 1) := by decide +kernel
theorem dX9_stepped_14 : decode cX9_stepped 14 = .ok (.if_icmp .ne 7, 3) := by decide +kernel
theorem dX9_stepped_17 : decode cX9_stepped 17 = .ok (.iconst (-1), 1) := by decide +kernel
theorem dX9_stepped_18 : decode cX9_stepped 18 = .ok (.goto 4, 3) := by decide +kernel
theorem dX9_stepped_21 : decode cX9_stepped 21 = .ok (.iconst 0, 1) := by decide +kernel
theorem dX9_stepped_22 : decode cX9_stepped 22 = .ok (.iadd, 1) := by decide +kernel
theorem dX9_stepped_23 : decode cX9_stepped 23 = .ok (.istore_n 2, 1) := by decide +kernel
theorem dX9_stepped_24 : decode cX9_stepped 24 = .ok (.iload_n 0, 1) := by decide +kernel
theorem dX9_stepped_25 : decode cX9_stepped 25 = .ok (.bipush 20, 2) := by decide +kernel
theorem dX9_stepped_27 : decode cX9_stepped 27 = .ok (.idiv, 1) := by decide +kernel
theorem dX9_stepped_28 : decode cX9_stepped 28 = .ok (.iload_n 1, 1) := by decide +kernel
theorem dX9_stepped_29 : decode cX9_stepped 29 = .ok (.iconst 1, 1) := by decide +kernel
theorem dX9_stepped_30 : decode cX9_stepped 30 = .ok (.if_icmp .ne 7, 3) := by decide +kernel
theorem dX9_stepped_33 : decode cX9_stepped 33 = .ok (.iconst 1, 1) := by decide +kernel
theorem dX9_stepped_34 : decode cX9_stepped 34 = .ok (.goto 13, 3) := by decide +kernel
theorem dX9_stepped_37 : decode cX9_stepped 37 = .ok (.iload_n 1, 1) := by decide +kernel
theorem dX9_stepped_38 : decode cX9_stepped 38 = .ok (.iconst 3, 1) := by decide +kernel
theorem dX9_stepped_39 : decode cX9_stepped 39 = .ok (.if_icmp .ne 7, 3) := by decide +kernel
theorem dX9_stepped_42 : decode cX9_stepped 42 = .ok (.iconst (-1), 1) := by decide +kernel
theorem dX9_stepped_43 : decode cX9_stepped 43 = .ok (.goto 4, 3) := by decide +kernel
theorem dX9_stepped_46 : decode cX9_stepped 46 = .ok (.iconst 0, 1) := by decide +kernel
theorem dX9_stepped_47 : decode cX9_stepped 47 = .ok (.iadd, 1) := by decide +kernel
theorem dX9_stepped_48 : decode cX9_stepped 48 = .ok (.istore_n 3, 1) := by decide +kernel
theorem dX9_stepped_49 : decode cX9_stepped 49 = .ok (.iload_n 2, 1) := by decide +kernel
theorem dX9_stepped_50 : decode cX9_stepped 50 = .ok (.iload_n 3, 1) := by decide +kernel
theorem dX9_stepped_51 : decode cX9_stepped 51 = .ok (.invokestatic 58, 3) := by decide +kernel
theorem dX9_stepped_54 : decode cX9_stepped 54 = .ok (.ifCond .eq 12, 3) := by decide +kernel
theorem dX9_stepped_57 : decode cX9_stepped 57 = .ok (.bipush 20, 2) := by decide +kernel
theorem dX9_stepped_59 : decode cX9_stepped 59 = .ok (.iload_n 3, 1) := by decide +kernel
theorem dX9_stepped_60 : decode cX9_stepped 60 = .ok (.imul, 1) := by decide +kernel
theorem dX9_stepped_61 : decode cX9_stepped 61 = .ok (.iload_n 2, 1) := by decide +kernel
theorem dX9_stepped_62 : decode cX9_stepped 62 = .ok (.iadd, 1) := by decide +kernel
theorem dX9_stepped_63 : decode cX9_stepped 63 = .ok (.goto 5, 3) := by decide +kernel
theorem dX9_stepped_66 : decode cX9_stepped 66 = .ok (.bipush (-6), 2) := by decide +kernel
theorem dX9_stepped_68 : decode cX9_stepped 68 = .ok (.ireturn, 1) := by decide +kernel
theorem dX9_way_0 : decode cX9_way 0 = .ok (.aload_n 0, 1) := by decide +kernel
theorem dX9_way_1 : decode cX9_way 1 = .ok (.getfield 7, 3) := by decide +kernel
theorem dX9_way_4 : decode cX9_way 4 = .ok (.iconst 5, 1) := by decide +kernel
theorem dX9_way_5 : decode cX9_way 5 = .ok (.iload_n 1, 1) := by decide +kernel
theorem dX9_way_6 : decode cX9_way 6 = .ok (.iadd, 1) := by decide +kernel
theorem dX9_way_7 : decode cX9_way 7 = .ok (.iconst 1, 1) := by decide +kernel
theorem dX9_way_8 : decode cX9_way 8 = .ok (.iadd, 1) := by decide +kernel
theorem dX9_way_9 : decode cX9_way 9 = .ok (.iaload, 1) := by decide +kernel
theorem dX9_way_10 : decode cX9_way 10 = .ok (.aload_n 0, 1) := by decide +kernel
theorem dX9_way_11 : decode cX9_way 11 = .ok (.getfield 7, 3) := by decide +kernel
theorem dX9_way_14 : decode cX9_way 14 = .ok (.iconst 5, 1) := by decide +kernel
theorem dX9_way_15 : decode cX9_way 15 = .ok (.iload_n 1, 1) := by decide +kernel
theorem dX9_way_16 : decode cX9_way 16 = .ok (.iadd, 1) := by decide +kernel
theorem dX9_way_17 : decode cX9_way 17 = .ok (.iaload, 1) := by decide +kernel
theorem dX9_way_18 : decode cX9_way 18 = .ok (.isub, 1) := by decide +kernel
theorem dX9_way_19 : decode cX9_way 19 = .ok (.istore_n 2, 1) := by decide +kernel
theorem dX9_way_20 : decode cX9_way 20 = .ok (.iload_n 2, 1) := by decide +kernel
theorem dX9_way_21 : decode cX9_way 21 = .ok (.iconst 1, 1) := by decide +kernel
theorem dX9_way_22 : decode cX9_way 22 = .ok (.if_icmp .ne 7, 3) := by decide +kernel
theorem dX9_way_25 : decode cX9_way 25 = .ok (.iconst 0, 1) := by decide +kernel
theorem dX9_way_26 : decode cX9_way 26 = .ok (.goto 23, 3) := by decide +kernel
theorem dX9_way_29 : decode cX9_way 29 = .ok (.iload_n 2, 1) := by decide +kernel
theorem dX9_way_30 : decode cX9_way 30 = .ok (.bipush 20, 2) := by decide +kernel
theorem dX9_way_32 : decode cX9_way 32 = .ok (.if_icmp .ne 7, 3) := by decide +kernel
theorem dX9_way_35 : decode cX9_way 35 = .ok (.iconst 1, 1) := by decide +kernel
theorem dX9_way_36 : decode cX9_way 36 = .ok (.goto 13, 3) := by decide +kernel
theorem dX9_way_39 : decode cX9_way 39 = .ok (.iload_n 2, 1) := by decide +kernel
theorem dX9_way_40 : decode cX9_way 40 = .ok (.iconst (-1), 1) := by decide +kernel
theorem dX9_way_41 : decode cX9_way 41 = .ok (.if_icmp .ne 7, 3) := by decide +kernel
theorem dX9_way_44 : decode cX9_way 44 = .ok (.iconst 2, 1) := by decide +kernel
theorem dX9_way_45 : decode cX9_way 45 = .ok (.goto 4, 3) := by decide +kernel
theorem dX9_way_48 : decode cX9_way 48 = .ok (.iconst 3, 1) := by decide +kernel
theorem dX9_way_49 : decode cX9_way 49 = .ok (.ireturn, 1) := by decide +kernel
theorem dX9_numberOf_0 : decode cX9_numberOf 0 = .ok (.bipush (-6), 2) := by decide +kernel
theorem dX9_numberOf_2 : decode cX9_numberOf 2 = .ok (.istore_n 2, 1) := by decide +kernel
theorem dX9_numberOf_3 : decode cX9_numberOf 3 = .ok (.iconst 0, 1) := by decide +kernel
theorem dX9_numberOf_4 : decode cX9_numberOf 4 = .ok (.istore_n 3, 1) := by decide +kernel
theorem dX9_numberOf_5 : decode cX9_numberOf 5 = .ok (.iload_n 3, 1) := by decide +kernel
theorem dX9_numberOf_6 : decode cX9_numberOf 6 = .ok (.aload_n 0, 1) := by decide +kernel
theorem dX9_numberOf_7 : decode cX9_numberOf 7 = .ok (.getfield 7, 3) := by decide +kernel
theorem dX9_numberOf_10 : decode cX9_numberOf 10 = .ok (.iconst 4, 1) := by decide +kernel
theorem dX9_numberOf_11 : decode cX9_numberOf 11 = .ok (.iaload, 1) := by decide +kernel
theorem dX9_numberOf_12 : decode cX9_numberOf 12 = .ok (.if_icmp .ge 27, 3) := by decide +kernel
theorem dX9_numberOf_15 : decode cX9_numberOf 15 = .ok (.aload_n 0, 1) := by decide +kernel
theorem dX9_numberOf_16 : decode cX9_numberOf 16 = .ok (.getfield 7, 3) := by decide +kernel
theorem dX9_numberOf_19 : decode cX9_numberOf 19 = .ok (.iconst 5, 1) := by decide +kernel
theorem dX9_numberOf_20 : decode cX9_numberOf 20 = .ok (.iload_n 3, 1) := by decide +kernel
theorem dX9_numberOf_21 : decode cX9_numberOf 21 = .ok (.iadd, 1) := by decide +kernel
theorem dX9_numberOf_22 : decode cX9_numberOf 22 = .ok (.iaload, 1) := by decide +kernel
theorem dX9_numberOf_23 : decode cX9_numberOf 23 = .ok (.iload_n 1, 1) := by decide +kernel
theorem dX9_numberOf_24 : decode cX9_numberOf 24 = .ok (.if_icmp .ne 7, 3) := by decide +kernel
theorem dX9_numberOf_27 : decode cX9_numberOf 27 = .ok (.iload_n 3, 1) := by decide +kernel
theorem dX9_numberOf_28 : decode cX9_numberOf 28 = .ok (.goto 4, 3) := by decide +kernel
theorem dX9_numberOf_31 : decode cX9_numberOf 31 = .ok (.iload_n 2, 1) := by decide +kernel
theorem dX9_numberOf_32 : decode cX9_numberOf 32 = .ok (.istore_n 2, 1) := by decide +kernel
theorem dX9_numberOf_33 : decode cX9_numberOf 33 = .ok (.iinc 3 1, 3) := by decide +kernel
theorem dX9_numberOf_36 : decode cX9_numberOf 36 = .ok (.goto (-31), 3) := by decide +kernel
theorem dX9_numberOf_39 : decode cX9_numberOf 39 = .ok (.iload_n 2, 1) := by decide +kernel
theorem dX9_numberOf_40 : decode cX9_numberOf 40 = .ok (.ireturn, 1) := by decide +kernel
theorem dX9_findBends_0 : decode cX9_findBends 0 = .ok (.iconst 0, 1) := by decide +kernel
theorem dX9_findBends_1 : decode cX9_findBends 1 = .ok (.istore_n 1, 1) := by decide +kernel
theorem dX9_findBends_2 : decode cX9_findBends 2 = .ok (.iload_n 1, 1) := by decide +kernel
theorem dX9_findBends_3 : decode cX9_findBends 3 = .ok (.sipush 240, 3) := by decide +kernel
theorem dX9_findBends_6 : decode cX9_findBends 6 = .ok (.if_icmp .ge 16, 3) := by decide +kernel
theorem dX9_findBends_9 : decode cX9_findBends 9 = .ok (.aload_n 0, 1) := by decide +kernel
theorem dX9_findBends_10 : decode cX9_findBends 10 = .ok (.getfield 35, 3) := by decide +kernel
theorem dX9_findBends_13 : decode cX9_findBends 13 = .ok (.iload_n 1, 1) := by decide +kernel
theorem dX9_findBends_14 : decode cX9_findBends 14 = .ok (.iconst 0, 1) := by decide +kernel
theorem dX9_findBends_15 : decode cX9_findBends 15 = .ok (.bastore, 1) := by decide +kernel
theorem dX9_findBends_16 : decode cX9_findBends 16 = .ok (.iinc 1 1, 3) := by decide +kernel
theorem dX9_findBends_19 : decode cX9_findBends 19 = .ok (.goto (-17), 3) := by decide +kernel
theorem dX9_findBends_22 : decode cX9_findBends 22 = .ok (.iconst 0, 1) := by decide +kernel
theorem dX9_findBends_23 : decode cX9_findBends 23 = .ok (.istore_n 1, 1) := by decide +kernel
theorem dX9_findBends_24 : decode cX9_findBends 24 = .ok (.iload_n 1, 1) := by decide +kernel
theorem dX9_findBends_25 : decode cX9_findBends 25 = .ok (.aload_n 0, 1) := by decide +kernel
theorem dX9_findBends_26 : decode cX9_findBends 26 = .ok (.getfield 7, 3) := by decide +kernel
theorem dX9_findBends_29 : decode cX9_findBends 29 = .ok (.iconst 4, 1) := by decide +kernel
theorem dX9_findBends_30 : decode cX9_findBends 30 = .ok (.iaload, 1) := by decide +kernel
theorem dX9_findBends_31 : decode cX9_findBends 31 = .ok (.if_icmp .ge 23, 3) := by decide +kernel
theorem dX9_findBends_34 : decode cX9_findBends 34 = .ok (.aload_n 0, 1) := by decide +kernel
theorem dX9_findBends_35 : decode cX9_findBends 35 = .ok (.getfield 35, 3) := by decide +kernel
theorem dX9_findBends_38 : decode cX9_findBends 38 = .ok (.aload_n 0, 1) := by decide +kernel
theorem dX9_findBends_39 : decode cX9_findBends 39 = .ok (.getfield 7, 3) := by decide +kernel
theorem dX9_findBends_42 : decode cX9_findBends 42 = .ok (.iconst 5, 1) := by decide +kernel
theorem dX9_findBends_43 : decode cX9_findBends 43 = .ok (.iload_n 1, 1) := by decide +kernel
theorem dX9_findBends_44 : decode cX9_findBends 44 = .ok (.iadd, 1) := by decide +kernel
theorem dX9_findBends_45 : decode cX9_findBends 45 = .ok (.iaload, 1) := by decide +kernel
theorem dX9_findBends_46 : decode cX9_findBends 46 = .ok (.iconst 1, 1) := by decide +kernel
theorem dX9_findBends_47 : decode cX9_findBends 47 = .ok (.bastore, 1) := by decide +kernel
theorem dX9_findBends_48 : decode cX9_findBends 48 = .ok (.iinc 1 1, 3) := by decide +kernel
theorem dX9_findBends_51 : decode cX9_findBends 51 = .ok (.goto (-27), 3) := by decide +kernel
theorem dX9_findBends_54 : decode cX9_findBends 54 = .ok (.aload_n 0, 1) := by decide +kernel
theorem dX9_findBends_55 : decode cX9_findBends 55 = .ok (.iconst 0, 1) := by decide +kernel
theorem dX9_findBends_56 : decode cX9_findBends 56 = .ok (.putfield 62, 3) := by decide +kernel
theorem dX9_findBends_59 : decode cX9_findBends 59 = .ok (.iconst 0, 1) := by decide +kernel
theorem dX9_findBends_60 : decode cX9_findBends 60 = .ok (.istore_n 1, 1) := by decide +kernel
theorem dX9_findBends_61 : decode cX9_findBends 61 = .ok (.iconst 1, 1) := by decide +kernel
theorem dX9_findBends_62 : decode cX9_findBends 62 = .ok (.istore_n 2, 1) := by decide +kernel
theorem dX9_findBends_63 : decode cX9_findBends 63 = .ok (.iload_n 2, 1) := by decide +kernel
theorem dX9_findBends_64 : decode cX9_findBends 64 = .ok (.aload_n 0, 1) := by decide +kernel
theorem dX9_findBends_65 : decode cX9_findBends 65 = .ok (.getfield 7, 3) := by decide +kernel
theorem dX9_findBends_68 : decode cX9_findBends 68 = .ok (.iconst 4, 1) := by decide +kernel
theorem dX9_findBends_69 : decode cX9_findBends 69 = .ok (.iaload, 1) := by decide +kernel
theorem dX9_findBends_70 : decode cX9_findBends 70 = .ok (.iconst 1, 1) := by decide +kernel
theorem dX9_findBends_71 : decode cX9_findBends 71 = .ok (.isub, 1) := by decide +kernel
theorem dX9_findBends_72 : decode cX9_findBends 72 = .ok (.if_icmp .ge 79, 3) := by decide +kernel
theorem dX9_findBends_75 : decode cX9_findBends 75 = .ok (.aload_n 0, 1) := by decide +kernel
theorem dX9_findBends_76 : decode cX9_findBends 76 = .ok (.iload_n 2, 1) := by decide +kernel
theorem dX9_findBends_77 : decode cX9_findBends 77 = .ok (.invokevirtual 65, 3) := by decide +kernel
theorem dX9_findBends_80 : decode cX9_findBends 80 = .ok (.aload_n 0, 1) := by decide +kernel
theorem dX9_findBends_81 : decode cX9_findBends 81 = .ok (.iload_n 2, 1) := by decide +kernel
theorem dX9_findBends_82 : decode cX9_findBends 82 = .ok (.iconst 1, 1) := by decide +kernel
theorem dX9_findBends_83 : decode cX9_findBends 83 = .ok (.isub, 1) := by decide +kernel
theorem dX9_findBends_84 : decode cX9_findBends 84 = .ok (.invokevirtual 65, 3) := by decide +kernel
theorem dX9_findBends_87 : decode cX9_findBends 87 = .ok (.if_icmp .eq 58, 3) := by decide +kernel
theorem dX9_findBends_90 : decode cX9_findBends 90 = .ok (.iload_n 1, 1) := by decide +kernel
theorem dX9_findBends_91 : decode cX9_findBends 91 = .ok (.ifCond .le 52, 3) := by decide +kernel
theorem dX9_findBends_94 : decode cX9_findBends 94 = .ok (.aload_n 0, 1) := by decide +kernel
theorem dX9_findBends_95 : decode cX9_findBends 95 = .ok (.iload_n 2, 1) := by decide +kernel
theorem dX9_findBends_96 : decode cX9_findBends 96 = .ok (.invokevirtual 65, 3) := by decide +kernel
theorem dX9_findBends_99 : decode cX9_findBends 99 = .ok (.aload_n 0, 1) := by decide +kernel
theorem dX9_findBends_100 : decode cX9_findBends 100 = .ok (.iload_n 1, 1) := by decide +kernel
theorem dX9_findBends_101 : decode cX9_findBends 101 = .ok (.iconst 1, 1) := by decide +kernel
theorem dX9_findBends_102 : decode cX9_findBends 102 = .ok (.isub, 1) := by decide +kernel
theorem dX9_findBends_103 : decode cX9_findBends 103 = .ok (.invokevirtual 65, 3) := by decide +kernel
theorem dX9_findBends_106 : decode cX9_findBends 106 = .ok (.iconst 2, 1) := by decide +kernel
theorem dX9_findBends_107 : decode cX9_findBends 107 = .ok (.iadd, 1) := by decide +kernel
theorem dX9_findBends_108 : decode cX9_findBends 108 = .ok (.iconst 4, 1) := by decide +kernel
theorem dX9_findBends_109 : decode cX9_findBends 109 = .ok (.irem, 1) := by decide +kernel
theorem dX9_findBends_110 : decode cX9_findBends 110 = .ok (.if_icmp .ne 33, 3) := by decide +kernel
theorem dX9_findBends_113 : decode cX9_findBends 113 = .ok (.aload_n 0, 1) := by decide +kernel
theorem dX9_findBends_114 : decode cX9_findBends 114 = .ok (.getfield 29, 3) := by decide +kernel
theorem dX9_findBends_117 : decode cX9_findBends 117 = .ok (.aload_n 0, 1) := by decide +kernel
theorem dX9_findBends_118 : decode cX9_findBends 118 = .ok (.getfield 62, 3) := by decide +kernel
theorem dX9_findBends_121 : decode cX9_findBends 121 = .ok (.iload_n 1, 1) := by decide +kernel
theorem dX9_findBends_122 : decode cX9_findBends 122 = .ok (.iastore, 1) := by decide +kernel
theorem dX9_findBends_123 : decode cX9_findBends 123 = .ok (.aload_n 0, 1) := by decide +kernel
theorem dX9_findBends_124 : decode cX9_findBends 124 = .ok (.getfield 32, 3) := by decide +kernel
theorem dX9_findBends_127 : decode cX9_findBends 127 = .ok (.aload_n 0, 1) := by decide +kernel
theorem dX9_findBends_128 : decode cX9_findBends 128 = .ok (.getfield 62, 3) := by decide +kernel
theorem dX9_findBends_131 : decode cX9_findBends 131 = .ok (.iload_n 2, 1) := by decide +kernel
theorem dX9_findBends_132 : decode cX9_findBends 132 = .ok (.iastore, 1) := by decide +kernel
theorem dX9_findBends_133 : decode cX9_findBends 133 = .ok (.aload_n 0, 1) := by decide +kernel
theorem dX9_findBends_134 : decode cX9_findBends 134 = .ok (.dup, 1) := by decide +kernel
theorem dX9_findBends_135 : decode cX9_findBends 135 = .ok (.getfield 62, 3) := by decide +kernel
theorem dX9_findBends_138 : decode cX9_findBends 138 = .ok (.iconst 1, 1) := by decide +kernel
theorem dX9_findBends_139 : decode cX9_findBends 139 = .ok (.iadd, 1) := by decide +kernel
theorem dX9_findBends_140 : decode cX9_findBends 140 = .ok (.putfield 62, 3) := by decide +kernel
theorem dX9_findBends_143 : decode cX9_findBends 143 = .ok (.iload_n 2, 1) := by decide +kernel
theorem dX9_findBends_144 : decode cX9_findBends 144 = .ok (.istore_n 1, 1) := by decide +kernel
theorem dX9_findBends_145 : decode cX9_findBends 145 = .ok (.iinc 2 1, 3) := by decide +kernel
theorem dX9_findBends_148 : decode cX9_findBends 148 = .ok (.goto (-85), 3) := by decide +kernel
theorem dX9_findBends_151 : decode cX9_findBends 151 = .ok (.return_, 1) := by decide +kernel
theorem dX9_wayOf_0 : decode cX9_wayOf 0 = .ok (.aload_n 0, 1) := by decide +kernel
theorem dX9_wayOf_1 : decode cX9_wayOf 1 = .ok (.aload_n 0, 1) := by decide +kernel
theorem dX9_wayOf_2 : decode cX9_wayOf 2 = .ok (.getfield 29, 3) := by decide +kernel
theorem dX9_wayOf_5 : decode cX9_wayOf 5 = .ok (.iload_n 1, 1) := by decide +kernel
theorem dX9_wayOf_6 : decode cX9_wayOf 6 = .ok (.iaload, 1) := by decide +kernel
theorem dX9_wayOf_7 : decode cX9_wayOf 7 = .ok (.iconst 1, 1) := by decide +kernel
theorem dX9_wayOf_8 : decode cX9_wayOf 8 = .ok (.isub, 1) := by decide +kernel
theorem dX9_wayOf_9 : decode cX9_wayOf 9 = .ok (.invokevirtual 65, 3) := by decide +kernel
theorem dX9_wayOf_12 : decode cX9_wayOf 12 = .ok (.ireturn, 1) := by decide +kernel
theorem dX9_bank_0 : decode cX9_bank 0 = .ok (.aload_n 0, 1) := by decide +kernel
theorem dX9_bank_1 : decode cX9_bank 1 = .ok (.getfield 7, 3) := by decide +kernel
theorem dX9_bank_4 : decode cX9_bank 4 = .ok (.iconst 5, 1) := by decide +kernel
theorem dX9_bank_5 : decode cX9_bank 5 = .ok (.iload_n 2, 1) := by decide +kernel
theorem dX9_bank_6 : decode cX9_bank 6 = .ok (.iadd, 1) := by decide +kernel
theorem dX9_bank_7 : decode cX9_bank 7 = .ok (.iaload, 1) := by decide +kernel
theorem dX9_bank_8 : decode cX9_bank 8 = .ok (.aload_n 0, 1) := by decide +kernel
theorem dX9_bank_9 : decode cX9_bank 9 = .ok (.iload_n 1, 1) := by decide +kernel
theorem dX9_bank_10 : decode cX9_bank 10 = .ok (.invokevirtual 69, 3) := by decide +kernel
theorem dX9_bank_13 : decode cX9_bank 13 = .ok (.invokestatic 72, 3) := by decide +kernel
theorem dX9_bank_16 : decode cX9_bank 16 = .ok (.ireturn, 1) := by decide +kernel
theorem dX9_isFirm_0 : decode cX9_isFirm 0 = .ok (.iconst 0, 1) := by decide +kernel
theorem dX9_isFirm_1 : decode cX9_isFirm 1 = .ok (.istore_n 2, 1) := by decide +kernel
theorem dX9_isFirm_2 : decode cX9_isFirm 2 = .ok (.aload_n 0, 1) := by decide +kernel
theorem dX9_isFirm_3 : decode cX9_isFirm 3 = .ok (.getfield 29, 3) := by decide +kernel
theorem dX9_isFirm_6 : decode cX9_isFirm 6 = .ok (.iload_n 1, 1) := by decide +kernel
theorem dX9_isFirm_7 : decode cX9_isFirm 7 = .ok (.iaload, 1) := by decide +kernel
theorem dX9_isFirm_8 : decode cX9_isFirm 8 = .ok (.istore_n 3, 1) := by decide +kernel
theorem dX9_isFirm_9 : decode cX9_isFirm 9 = .ok (.iload_n 3, 1) := by decide +kernel
theorem dX9_isFirm_10 : decode cX9_isFirm 10 = .ok (.aload_n 0, 1) := by decide +kernel
theorem dX9_isFirm_11 : decode cX9_isFirm 11 = .ok (.getfield 32, 3) := by decide +kernel
theorem dX9_isFirm_14 : decode cX9_isFirm 14 = .ok (.iload_n 1, 1) := by decide +kernel
theorem dX9_isFirm_15 : decode cX9_isFirm 15 = .ok (.iaload, 1) := by decide +kernel
theorem dX9_isFirm_16 : decode cX9_isFirm 16 = .ok (.if_icmp .gt 59, 3) := by decide +kernel
theorem dX9_isFirm_19 : decode cX9_isFirm 19 = .ok (.iload_n 2, 1) := by decide +kernel
theorem dX9_isFirm_20 : decode cX9_isFirm 20 = .ok (.ifCond .ne 55, 3) := by decide +kernel
theorem dX9_isFirm_23 : decode cX9_isFirm 23 = .ok (.aload_n 0, 1) := by decide +kernel
theorem dX9_isFirm_24 : decode cX9_isFirm 24 = .ok (.iload_n 1, 1) := by decide +kernel
theorem dX9_isFirm_25 : decode cX9_isFirm 25 = .ok (.iload_n 3, 1) := by decide +kernel
theorem dX9_isFirm_26 : decode cX9_isFirm 26 = .ok (.invokevirtual 76, 3) := by decide +kernel
theorem dX9_isFirm_29 : decode cX9_isFirm 29 = .ok (.istore 4, 2) := by decide +kernel
theorem dX9_isFirm_31 : decode cX9_isFirm 31 = .ok (.iload 4, 2) := by decide +kernel
theorem dX9_isFirm_33 : decode cX9_isFirm 33 = .ok (.bipush (-6), 2) := by decide +kernel
theorem dX9_isFirm_35 : decode cX9_isFirm 35 = .ok (.if_icmp .eq 28, 3) := by decide +kernel
theorem dX9_isFirm_38 : decode cX9_isFirm 38 = .ok (.aload_n 0, 1) := by decide +kernel
theorem dX9_isFirm_39 : decode cX9_isFirm 39 = .ok (.getfield 7, 3) := by decide +kernel
theorem dX9_isFirm_42 : decode cX9_isFirm 42 = .ok (.sipush 395, 3) := by decide +kernel
theorem dX9_isFirm_45 : decode cX9_isFirm 45 = .ok (.iload 4, 2) := by decide +kernel
theorem dX9_isFirm_47 : decode cX9_isFirm 47 = .ok (.iadd, 1) := by decide +kernel
theorem dX9_isFirm_48 : decode cX9_isFirm 48 = .ok (.iaload, 1) := by decide +kernel
theorem dX9_isFirm_49 : decode cX9_isFirm 49 = .ok (.iconst 1, 1) := by decide +kernel
theorem dX9_isFirm_50 : decode cX9_isFirm 50 = .ok (.if_icmp .eq 13, 3) := by decide +kernel
theorem dX9_isFirm_53 : decode cX9_isFirm 53 = .ok (.aload_n 0, 1) := by decide +kernel
theorem dX9_isFirm_54 : decode cX9_isFirm 54 = .ok (.getfield 35, 3) := by decide +kernel
theorem dX9_isFirm_57 : decode cX9_isFirm 57 = .ok (.iload 4, 2) := by decide +kernel
theorem dX9_isFirm_59 : decode cX9_isFirm 59 = .ok (.baload, 1) := by decide +kernel
theorem dX9_isFirm_60 : decode cX9_isFirm 60 = .ok (.ifCond .eq 7, 3) := by decide +kernel
theorem dX9_isFirm_63 : decode cX9_isFirm 63 = .ok (.iconst 1, 1) := by decide +kernel
theorem dX9_isFirm_64 : decode cX9_isFirm 64 = .ok (.goto 4, 3) := by decide +kernel
theorem dX9_isFirm_67 : decode cX9_isFirm 67 = .ok (.iconst 0, 1) := by decide +kernel
theorem dX9_isFirm_68 : decode cX9_isFirm 68 = .ok (.istore_n 2, 1) := by decide +kernel
theorem dX9_isFirm_69 : decode cX9_isFirm 69 = .ok (.iinc 3 1, 3) := by decide +kernel
theorem dX9_isFirm_72 : decode cX9_isFirm 72 = .ok (.goto (-63), 3) := by decide +kernel
theorem dX9_isFirm_75 : decode cX9_isFirm 75 = .ok (.iload_n 2, 1) := by decide +kernel
theorem dX9_isFirm_76 : decode cX9_isFirm 76 = .ok (.ireturn, 1) := by decide +kernel
theorem dX9_leastWear_0 : decode cX9_leastWear 0 = .ok (.bipush 99, 2) := by decide +kernel
theorem dX9_leastWear_2 : decode cX9_leastWear 2 = .ok (.istore_n 2, 1) := by decide +kernel
theorem dX9_leastWear_3 : decode cX9_leastWear 3 = .ok (.aload_n 0, 1) := by decide +kernel
theorem dX9_leastWear_4 : decode cX9_leastWear 4 = .ok (.getfield 29, 3) := by decide +kernel
theorem dX9_leastWear_7 : decode cX9_leastWear 7 = .ok (.iload_n 1, 1) := by decide +kernel
theorem dX9_leastWear_8 : decode cX9_leastWear 8 = .ok (.iaload, 1) := by decide +kernel
theorem dX9_leastWear_9 : decode cX9_leastWear 9 = .ok (.istore_n 3, 1) := by decide +kernel
theorem dX9_leastWear_10 : decode cX9_leastWear 10 = .ok (.iload_n 3, 1) := by decide +kernel
theorem dX9_leastWear_11 : decode cX9_leastWear 11 = .ok (.aload_n 0, 1) := by decide +kernel
theorem dX9_leastWear_12 : decode cX9_leastWear 12 = .ok (.getfield 32, 3) := by decide +kernel
theorem dX9_leastWear_15 : decode cX9_leastWear 15 = .ok (.iload_n 1, 1) := by decide +kernel
theorem dX9_leastWear_16 : decode cX9_leastWear 16 = .ok (.iaload, 1) := by decide +kernel
theorem dX9_leastWear_17 : decode cX9_leastWear 17 = .ok (.if_icmp .gt 39, 3) := by decide +kernel
theorem dX9_leastWear_20 : decode cX9_leastWear 20 = .ok (.aload_n 0, 1) := by decide +kernel
theorem dX9_leastWear_21 : decode cX9_leastWear 21 = .ok (.getfield 7, 3) := by decide +kernel
theorem dX9_leastWear_24 : decode cX9_leastWear 24 = .ok (.sipush 155, 3) := by decide +kernel
theorem dX9_leastWear_27 : decode cX9_leastWear 27 = .ok (.aload_n 0, 1) := by decide +kernel
theorem dX9_leastWear_28 : decode cX9_leastWear 28 = .ok (.iload_n 1, 1) := by decide +kernel
theorem dX9_leastWear_29 : decode cX9_leastWear 29 = .ok (.iload_n 3, 1) := by decide +kernel
theorem dX9_leastWear_30 : decode cX9_leastWear 30 = .ok (.invokevirtual 76, 3) := by decide +kernel
theorem dX9_leastWear_33 : decode cX9_leastWear 33 = .ok (.iadd, 1) := by decide +kernel
theorem dX9_leastWear_34 : decode cX9_leastWear 34 = .ok (.iaload, 1) := by decide +kernel
theorem dX9_leastWear_35 : decode cX9_leastWear 35 = .ok (.istore 4, 2) := by decide +kernel
theorem dX9_leastWear_37 : decode cX9_leastWear 37 = .ok (.iload 4, 2) := by decide +kernel
theorem dX9_leastWear_39 : decode cX9_leastWear 39 = .ok (.iload_n 2, 1) := by decide +kernel
theorem dX9_leastWear_40 : decode cX9_leastWear 40 = .ok (.if_icmp .ge 8, 3) := by decide +kernel
theorem dX9_leastWear_43 : decode cX9_leastWear 43 = .ok (.iload 4, 2) := by decide +kernel
theorem dX9_leastWear_45 : decode cX9_leastWear 45 = .ok (.goto 4, 3) := by decide +kernel
theorem dX9_leastWear_48 : decode cX9_leastWear 48 = .ok (.iload_n 2, 1) := by decide +kernel
theorem dX9_leastWear_49 : decode cX9_leastWear 49 = .ok (.istore_n 2, 1) := by decide +kernel
theorem dX9_leastWear_50 : decode cX9_leastWear 50 = .ok (.iinc 3 1, 3) := by decide +kernel
theorem dX9_leastWear_53 : decode cX9_leastWear 53 = .ok (.goto (-43), 3) := by decide +kernel
theorem dX9_leastWear_56 : decode cX9_leastWear 56 = .ok (.iload_n 2, 1) := by decide +kernel
theorem dX9_leastWear_57 : decode cX9_leastWear 57 = .ok (.ireturn, 1) := by decide +kernel
theorem dX9_canGrow_0 : decode cX9_canGrow 0 = .ok (.aload_n 0, 1) := by decide +kernel
theorem dX9_canGrow_1 : decode cX9_canGrow 1 = .ok (.getfield 7, 3) := by decide +kernel
theorem dX9_canGrow_4 : decode cX9_canGrow 4 = .ok (.iconst 4, 1) := by decide +kernel
theorem dX9_canGrow_5 : decode cX9_canGrow 5 = .ok (.iaload, 1) := by decide +kernel
theorem dX9_canGrow_6 : decode cX9_canGrow 6 = .ok (.sipush 148, 3) := by decide +kernel
theorem dX9_canGrow_9 : decode cX9_canGrow 9 = .ok (.if_icmp .gt 29, 3) := by decide +kernel
theorem dX9_canGrow_12 : decode cX9_canGrow 12 = .ok (.aload_n 0, 1) := by decide +kernel
theorem dX9_canGrow_13 : decode cX9_canGrow 13 = .ok (.iload_n 1, 1) := by decide +kernel
theorem dX9_canGrow_14 : decode cX9_canGrow 14 = .ok (.invokevirtual 79, 3) := by decide +kernel
theorem dX9_canGrow_17 : decode cX9_canGrow 17 = .ok (.ifCond .ne 21, 3) := by decide +kernel
theorem dX9_canGrow_20 : decode cX9_canGrow 20 = .ok (.aload_n 0, 1) := by decide +kernel
theorem dX9_canGrow_21 : decode cX9_canGrow 21 = .ok (.iload_n 1, 1) := by decide +kernel
theorem dX9_canGrow_22 : decode cX9_canGrow 22 = .ok (.invokevirtual 83, 3) := by decide +kernel
theorem dX9_canGrow_25 : decode cX9_canGrow 25 = .ok (.aload_n 0, 1) := by decide +kernel
theorem dX9_canGrow_26 : decode cX9_canGrow 26 = .ok (.getfield 7, 3) := by decide +kernel
theorem dX9_canGrow_29 : decode cX9_canGrow 29 = .ok (.iconst 1, 1) := by decide +kernel
theorem dX9_canGrow_30 : decode cX9_canGrow 30 = .ok (.iaload, 1) := by decide +kernel
theorem dX9_canGrow_31 : decode cX9_canGrow 31 = .ok (.if_icmp .lt 7, 3) := by decide +kernel
theorem dX9_canGrow_34 : decode cX9_canGrow 34 = .ok (.iconst 1, 1) := by decide +kernel
theorem dX9_canGrow_35 : decode cX9_canGrow 35 = .ok (.goto 4, 3) := by decide +kernel
theorem dX9_canGrow_38 : decode cX9_canGrow 38 = .ok (.iconst 0, 1) := by decide +kernel
theorem dX9_canGrow_39 : decode cX9_canGrow 39 = .ok (.ireturn, 1) := by decide +kernel
theorem dX9_dropOxbow_0 : decode cX9_dropOxbow 0 = .ok (.iconst 0, 1) := by decide +kernel
theorem dX9_dropOxbow_1 : decode cX9_dropOxbow 1 = .ok (.istore_n 2, 1) := by decide +kernel
theorem dX9_dropOxbow_2 : decode cX9_dropOxbow 2 = .ok (.iload_n 2, 1) := by decide +kernel
theorem dX9_dropOxbow_3 : decode cX9_dropOxbow 3 = .ok (.sipush 240, 3) := by decide +kernel
theorem dX9_dropOxbow_6 : decode cX9_dropOxbow 6 = .ok (.if_icmp .ge 52, 3) := by decide +kernel
theorem dX9_dropOxbow_9 : decode cX9_dropOxbow 9 = .ok (.aload_n 0, 1) := by decide +kernel
theorem dX9_dropOxbow_10 : decode cX9_dropOxbow 10 = .ok (.getfield 7, 3) := by decide +kernel
theorem dX9_dropOxbow_13 : decode cX9_dropOxbow 13 = .ok (.sipush 1115, 3) := by decide +kernel
theorem dX9_dropOxbow_16 : decode cX9_dropOxbow 16 = .ok (.iload_n 2, 1) := by decide +kernel
theorem dX9_dropOxbow_17 : decode cX9_dropOxbow 17 = .ok (.iadd, 1) := by decide +kernel
theorem dX9_dropOxbow_18 : decode cX9_dropOxbow 18 = .ok (.iaload, 1) := by decide +kernel
theorem dX9_dropOxbow_19 : decode cX9_dropOxbow 19 = .ok (.istore_n 3, 1) := by decide +kernel
theorem dX9_dropOxbow_20 : decode cX9_dropOxbow 20 = .ok (.aload_n 0, 1) := by decide +kernel
theorem dX9_dropOxbow_21 : decode cX9_dropOxbow 21 = .ok (.getfield 7, 3) := by decide +kernel
theorem dX9_dropOxbow_24 : decode cX9_dropOxbow 24 = .ok (.sipush 1115, 3) := by decide +kernel
theorem dX9_dropOxbow_27 : decode cX9_dropOxbow 27 = .ok (.iload_n 2, 1) := by decide +kernel
theorem dX9_dropOxbow_28 : decode cX9_dropOxbow 28 = .ok (.iadd, 1) := by decide +kernel
theorem dX9_dropOxbow_29 : decode cX9_dropOxbow 29 = .ok (.iload_n 3, 1) := by decide +kernel
theorem dX9_dropOxbow_30 : decode cX9_dropOxbow 30 = .ok (.iload_n 1, 1) := by decide +kernel
theorem dX9_dropOxbow_31 : decode cX9_dropOxbow 31 = .ok (.if_icmp .ne 8, 3) := by decide +kernel
theorem dX9_dropOxbow_34 : decode cX9_dropOxbow 34 = .ok (.bipush (-6), 2) := by decide +kernel
theorem dX9_dropOxbow_36 : decode cX9_dropOxbow 36 = .ok (.goto 15, 3) := by decide +kernel
theorem dX9_dropOxbow_39 : decode cX9_dropOxbow 39 = .ok (.iload_n 3, 1) := by decide +kernel
theorem dX9_dropOxbow_40 : decode cX9_dropOxbow 40 = .ok (.iload_n 1, 1) := by decide +kernel
theorem dX9_dropOxbow_41 : decode cX9_dropOxbow 41 = .ok (.if_icmp .le 9, 3) := by decide +kernel
theorem dX9_dropOxbow_44 : decode cX9_dropOxbow 44 = .ok (.iload_n 3, 1) := by decide +kernel
theorem dX9_dropOxbow_45 : decode cX9_dropOxbow 45 = .ok (.iconst 1, 1) := by decide +kernel
theorem dX9_dropOxbow_46 : decode cX9_dropOxbow 46 = .ok (.isub, 1) := by decide +kernel
theorem dX9_dropOxbow_47 : decode cX9_dropOxbow 47 = .ok (.goto 4, 3) := by decide +kernel
theorem dX9_dropOxbow_50 : decode cX9_dropOxbow 50 = .ok (.iload_n 3, 1) := by decide +kernel
theorem dX9_dropOxbow_51 : decode cX9_dropOxbow 51 = .ok (.iastore, 1) := by decide +kernel
theorem dX9_dropOxbow_52 : decode cX9_dropOxbow 52 = .ok (.iinc 2 1, 3) := by decide +kernel
theorem dX9_dropOxbow_55 : decode cX9_dropOxbow 55 = .ok (.goto (-53), 3) := by decide +kernel
theorem dX9_dropOxbow_58 : decode cX9_dropOxbow 58 = .ok (.aload_n 0, 1) := by decide +kernel
theorem dX9_dropOxbow_59 : decode cX9_dropOxbow 59 = .ok (.getfield 7, 3) := by decide +kernel
theorem dX9_dropOxbow_62 : decode cX9_dropOxbow 62 = .ok (.sipush 1355, 3) := by decide +kernel
theorem dX9_dropOxbow_65 : decode cX9_dropOxbow 65 = .ok (.dup2, 1) := by decide +kernel
theorem dX9_dropOxbow_66 : decode cX9_dropOxbow 66 = .ok (.iaload, 1) := by decide +kernel
theorem dX9_dropOxbow_67 : decode cX9_dropOxbow 67 = .ok (.iconst 1, 1) := by decide +kernel
theorem dX9_dropOxbow_68 : decode cX9_dropOxbow 68 = .ok (.isub, 1) := by decide +kernel
theorem dX9_dropOxbow_69 : decode cX9_dropOxbow 69 = .ok (.iastore, 1) := by decide +kernel
theorem dX9_dropOxbow_70 : decode cX9_dropOxbow 70 = .ok (.sipush 1356, 3) := by decide +kernel
theorem dX9_dropOxbow_73 : decode cX9_dropOxbow 73 = .ok (.iconst 3, 1) := by decide +kernel
theorem dX9_dropOxbow_74 : decode cX9_dropOxbow 74 = .ok (.iload_n 1, 1) := by decide +kernel
theorem dX9_dropOxbow_75 : decode cX9_dropOxbow 75 = .ok (.imul, 1) := by decide +kernel
theorem dX9_dropOxbow_76 : decode cX9_dropOxbow 76 = .ok (.iadd, 1) := by decide +kernel
theorem dX9_dropOxbow_77 : decode cX9_dropOxbow 77 = .ok (.istore_n 2, 1) := by decide +kernel
theorem dX9_dropOxbow_78 : decode cX9_dropOxbow 78 = .ok (.iload_n 2, 1) := by decide +kernel
theorem dX9_dropOxbow_79 : decode cX9_dropOxbow 79 = .ok (.sipush 1356, 3) := by decide +kernel
theorem dX9_dropOxbow_82 : decode cX9_dropOxbow 82 = .ok (.iconst 3, 1) := by decide +kernel
theorem dX9_dropOxbow_83 : decode cX9_dropOxbow 83 = .ok (.aload_n 0, 1) := by decide +kernel
theorem dX9_dropOxbow_84 : decode cX9_dropOxbow 84 = .ok (.getfield 7, 3) := by decide +kernel
theorem dX9_dropOxbow_87 : decode cX9_dropOxbow 87 = .ok (.sipush 1355, 3) := by decide +kernel
theorem dX9_dropOxbow_90 : decode cX9_dropOxbow 90 = .ok (.iaload, 1) := by decide +kernel
theorem dX9_dropOxbow_91 : decode cX9_dropOxbow 91 = .ok (.imul, 1) := by decide +kernel
theorem dX9_dropOxbow_92 : decode cX9_dropOxbow 92 = .ok (.iadd, 1) := by decide +kernel
theorem dX9_dropOxbow_93 : decode cX9_dropOxbow 93 = .ok (.if_icmp .ge 23, 3) := by decide +kernel
theorem dX9_dropOxbow_96 : decode cX9_dropOxbow 96 = .ok (.aload_n 0, 1) := by decide +kernel
theorem dX9_dropOxbow_97 : decode cX9_dropOxbow 97 = .ok (.getfield 7, 3) := by decide +kernel
theorem dX9_dropOxbow_100 : decode cX9_dropOxbow 100 = .ok (.iload_n 2, 1) := by decide +kernel
theorem dX9_dropOxbow_101 : decode cX9_dropOxbow 101 = .ok (.aload_n 0, 1) := by decide +kernel
theorem dX9_dropOxbow_102 : decode cX9_dropOxbow 102 = .ok (.getfield 7, 3) := by decide +kernel
theorem dX9_dropOxbow_105 : decode cX9_dropOxbow 105 = .ok (.iload_n 2, 1) := by decide +kernel
theorem dX9_dropOxbow_106 : decode cX9_dropOxbow 106 = .ok (.iconst 3, 1) := by decide +kernel
theorem dX9_dropOxbow_107 : decode cX9_dropOxbow 107 = .ok (.iadd, 1) := by decide +kernel
theorem dX9_dropOxbow_108 : decode cX9_dropOxbow 108 = .ok (.iaload, 1) := by decide +kernel
theorem dX9_dropOxbow_109 : decode cX9_dropOxbow 109 = .ok (.iastore, 1) := by decide +kernel
theorem dX9_dropOxbow_110 : decode cX9_dropOxbow 110 = .ok (.iinc 2 1, 3) := by decide +kernel
theorem dX9_dropOxbow_113 : decode cX9_dropOxbow 113 = .ok (.goto (-35), 3) := by decide +kernel
theorem dX9_dropOxbow_116 : decode cX9_dropOxbow 116 = .ok (.return_, 1) := by decide +kernel
theorem dX9_grow_0 : decode cX9_grow 0 = .ok (.aload_n 0, 1) := by decide +kernel
theorem dX9_grow_1 : decode cX9_grow 1 = .ok (.getfield 29, 3) := by decide +kernel
theorem dX9_grow_4 : decode cX9_grow 4 = .ok (.iload_n 1, 1) := by decide +kernel
theorem dX9_grow_5 : decode cX9_grow 5 = .ok (.iaload, 1) := by decide +kernel
theorem dX9_grow_6 : decode cX9_grow 6 = .ok (.istore_n 2, 1) := by decide +kernel
theorem dX9_grow_7 : decode cX9_grow 7 = .ok (.aload_n 0, 1) := by decide +kernel
theorem dX9_grow_8 : decode cX9_grow 8 = .ok (.getfield 32, 3) := by decide +kernel
theorem dX9_grow_11 : decode cX9_grow 11 = .ok (.iload_n 1, 1) := by decide +kernel
theorem dX9_grow_12 : decode cX9_grow 12 = .ok (.iaload, 1) := by decide +kernel
theorem dX9_grow_13 : decode cX9_grow 13 = .ok (.istore_n 3, 1) := by decide +kernel
theorem dX9_grow_14 : decode cX9_grow 14 = .ok (.iload_n 2, 1) := by decide +kernel
theorem dX9_grow_15 : decode cX9_grow 15 = .ok (.istore 4, 2) := by decide +kernel
theorem dX9_grow_17 : decode cX9_grow 17 = .ok (.iload 4, 2) := by decide +kernel
theorem dX9_grow_19 : decode cX9_grow 19 = .ok (.iload_n 3, 1) := by decide +kernel
theorem dX9_grow_20 : decode cX9_grow 20 = .ok (.if_icmp .gt 25, 3) := by decide +kernel
theorem dX9_grow_23 : decode cX9_grow 23 = .ok (.aload_n 0, 1) := by decide +kernel
theorem dX9_grow_24 : decode cX9_grow 24 = .ok (.getfield 38, 3) := by decide +kernel
theorem dX9_grow_27 : decode cX9_grow 27 = .ok (.iload 4, 2) := by decide +kernel
theorem dX9_grow_29 : decode cX9_grow 29 = .ok (.iload_n 2, 1) := by decide +kernel
theorem dX9_grow_30 : decode cX9_grow 30 = .ok (.isub, 1) := by decide +kernel
theorem dX9_grow_31 : decode cX9_grow 31 = .ok (.aload_n 0, 1) := by decide +kernel
theorem dX9_grow_32 : decode cX9_grow 32 = .ok (.iload_n 1, 1) := by decide +kernel
theorem dX9_grow_33 : decode cX9_grow 33 = .ok (.iload 4, 2) := by decide +kernel
theorem dX9_grow_35 : decode cX9_grow 35 = .ok (.invokevirtual 76, 3) := by decide +kernel
theorem dX9_grow_38 : decode cX9_grow 38 = .ok (.iastore, 1) := by decide +kernel
theorem dX9_grow_39 : decode cX9_grow 39 = .ok (.iinc 4 1, 3) := by decide +kernel
theorem dX9_grow_42 : decode cX9_grow 42 = .ok (.goto (-25), 3) := by decide +kernel
theorem dX9_grow_45 : decode cX9_grow 45 = .ok (.aload_n 0, 1) := by decide +kernel
theorem dX9_grow_46 : decode cX9_grow 46 = .ok (.getfield 7, 3) := by decide +kernel
theorem dX9_grow_49 : decode cX9_grow 49 = .ok (.iconst 4, 1) := by decide +kernel
theorem dX9_grow_50 : decode cX9_grow 50 = .ok (.iaload, 1) := by decide +kernel
theorem dX9_grow_51 : decode cX9_grow 51 = .ok (.iconst 1, 1) := by decide +kernel
theorem dX9_grow_52 : decode cX9_grow 52 = .ok (.isub, 1) := by decide +kernel
theorem dX9_grow_53 : decode cX9_grow 53 = .ok (.istore 4, 2) := by decide +kernel
theorem dX9_grow_55 : decode cX9_grow 55 = .ok (.iload 4, 2) := by decide +kernel
theorem dX9_grow_57 : decode cX9_grow 57 = .ok (.iload_n 3, 1) := by decide +kernel
theorem dX9_grow_58 : decode cX9_grow 58 = .ok (.if_icmp .lt 29, 3) := by decide +kernel
theorem dX9_grow_61 : decode cX9_grow 61 = .ok (.aload_n 0, 1) := by decide +kernel
theorem dX9_grow_62 : decode cX9_grow 62 = .ok (.getfield 7, 3) := by decide +kernel
theorem dX9_grow_65 : decode cX9_grow 65 = .ok (.iconst 5, 1) := by decide +kernel
theorem dX9_grow_66 : decode cX9_grow 66 = .ok (.iload 4, 2) := by decide +kernel
theorem dX9_grow_68 : decode cX9_grow 68 = .ok (.iadd, 1) := by decide +kernel
theorem dX9_grow_69 : decode cX9_grow 69 = .ok (.iconst 2, 1) := by decide +kernel
theorem dX9_grow_70 : decode cX9_grow 70 = .ok (.iadd, 1) := by decide +kernel
theorem dX9_grow_71 : decode cX9_grow 71 = .ok (.aload_n 0, 1) := by decide +kernel
theorem dX9_grow_72 : decode cX9_grow 72 = .ok (.getfield 7, 3) := by decide +kernel
theorem dX9_grow_75 : decode cX9_grow 75 = .ok (.iconst 5, 1) := by decide +kernel
theorem dX9_grow_76 : decode cX9_grow 76 = .ok (.iload 4, 2) := by decide +kernel
theorem dX9_grow_78 : decode cX9_grow 78 = .ok (.iadd, 1) := by decide +kernel
theorem dX9_grow_79 : decode cX9_grow 79 = .ok (.iaload, 1) := by decide +kernel
theorem dX9_grow_80 : decode cX9_grow 80 = .ok (.iastore, 1) := by decide +kernel
theorem dX9_grow_81 : decode cX9_grow 81 = .ok (.iinc 4 (-1), 3) := by decide +kernel
theorem dX9_grow_84 : decode cX9_grow 84 = .ok (.goto (-29), 3) := by decide +kernel
theorem dX9_grow_87 : decode cX9_grow 87 = .ok (.iload_n 2, 1) := by decide +kernel
theorem dX9_grow_88 : decode cX9_grow 88 = .ok (.istore 4, 2) := by decide +kernel
theorem dX9_grow_90 : decode cX9_grow 90 = .ok (.iload 4, 2) := by decide +kernel
theorem dX9_grow_92 : decode cX9_grow 92 = .ok (.iload_n 3, 1) := by decide +kernel
theorem dX9_grow_93 : decode cX9_grow 93 = .ok (.if_icmp .gt 101, 3) := by decide +kernel
theorem dX9_grow_96 : decode cX9_grow 96 = .ok (.aload_n 0, 1) := by decide +kernel
theorem dX9_grow_97 : decode cX9_grow 97 = .ok (.getfield 38, 3) := by decide +kernel
theorem dX9_grow_100 : decode cX9_grow 100 = .ok (.iload 4, 2) := by decide +kernel
theorem dX9_grow_102 : decode cX9_grow 102 = .ok (.iload_n 2, 1) := by decide +kernel
theorem dX9_grow_103 : decode cX9_grow 103 = .ok (.isub, 1) := by decide +kernel
theorem dX9_grow_104 : decode cX9_grow 104 = .ok (.iaload, 1) := by decide +kernel
theorem dX9_grow_105 : decode cX9_grow 105 = .ok (.istore 5, 2) := by decide +kernel
theorem dX9_grow_107 : decode cX9_grow 107 = .ok (.aload_n 0, 1) := by decide +kernel
theorem dX9_grow_108 : decode cX9_grow 108 = .ok (.getfield 7, 3) := by decide +kernel
theorem dX9_grow_111 : decode cX9_grow 111 = .ok (.iconst 5, 1) := by decide +kernel
theorem dX9_grow_112 : decode cX9_grow 112 = .ok (.iload 4, 2) := by decide +kernel
theorem dX9_grow_114 : decode cX9_grow 114 = .ok (.iadd, 1) := by decide +kernel
theorem dX9_grow_115 : decode cX9_grow 115 = .ok (.iconst 1, 1) := by decide +kernel
theorem dX9_grow_116 : decode cX9_grow 116 = .ok (.iadd, 1) := by decide +kernel
theorem dX9_grow_117 : decode cX9_grow 117 = .ok (.iload 5, 2) := by decide +kernel
theorem dX9_grow_119 : decode cX9_grow 119 = .ok (.iastore, 1) := by decide +kernel
theorem dX9_grow_120 : decode cX9_grow 120 = .ok (.aload_n 0, 1) := by decide +kernel
theorem dX9_grow_121 : decode cX9_grow 121 = .ok (.getfield 7, 3) := by decide +kernel
theorem dX9_grow_124 : decode cX9_grow 124 = .ok (.sipush 155, 3) := by decide +kernel
theorem dX9_grow_127 : decode cX9_grow 127 = .ok (.iload 5, 2) := by decide +kernel
theorem dX9_grow_129 : decode cX9_grow 129 = .ok (.iadd, 1) := by decide +kernel
theorem dX9_grow_130 : decode cX9_grow 130 = .ok (.iconst 0, 1) := by decide +kernel
theorem dX9_grow_131 : decode cX9_grow 131 = .ok (.iastore, 1) := by decide +kernel
theorem dX9_grow_132 : decode cX9_grow 132 = .ok (.aload_n 0, 1) := by decide +kernel
theorem dX9_grow_133 : decode cX9_grow 133 = .ok (.aload_n 0, 1) := by decide +kernel
theorem dX9_grow_134 : decode cX9_grow 134 = .ok (.getfield 86, 3) := by decide +kernel
theorem dX9_grow_137 : decode cX9_grow 137 = .ok (.ifCond .ne 12, 3) := by decide +kernel
theorem dX9_grow_140 : decode cX9_grow 140 = .ok (.iload 5, 2) := by decide +kernel
theorem dX9_grow_142 : decode cX9_grow 142 = .ok (.aload_n 0, 1) := by decide +kernel
theorem dX9_grow_143 : decode cX9_grow 143 = .ok (.getfield 90, 3) := by decide +kernel
theorem dX9_grow_146 : decode cX9_grow 146 = .ok (.if_icmp .ne 7, 3) := by decide +kernel
theorem dX9_grow_149 : decode cX9_grow 149 = .ok (.iconst 1, 1) := by decide +kernel
theorem dX9_grow_150 : decode cX9_grow 150 = .ok (.goto 4, 3) := by decide +kernel
theorem dX9_grow_153 : decode cX9_grow 153 = .ok (.iconst 0, 1) := by decide +kernel
theorem dX9_grow_154 : decode cX9_grow 154 = .ok (.putfield 86, 3) := by decide +kernel
theorem dX9_grow_157 : decode cX9_grow 157 = .ok (.aload_n 0, 1) := by decide +kernel
theorem dX9_grow_158 : decode cX9_grow 158 = .ok (.getfield 7, 3) := by decide +kernel
theorem dX9_grow_161 : decode cX9_grow 161 = .ok (.sipush 1115, 3) := by decide +kernel
theorem dX9_grow_164 : decode cX9_grow 164 = .ok (.iload 5, 2) := by decide +kernel
theorem dX9_grow_166 : decode cX9_grow 166 = .ok (.iadd, 1) := by decide +kernel
theorem dX9_grow_167 : decode cX9_grow 167 = .ok (.iaload, 1) := by decide +kernel
theorem dX9_grow_168 : decode cX9_grow 168 = .ok (.bipush (-6), 2) := by decide +kernel
theorem dX9_grow_170 : decode cX9_grow 170 = .ok (.if_icmp .eq 18, 3) := by decide +kernel
theorem dX9_grow_173 : decode cX9_grow 173 = .ok (.aload_n 0, 1) := by decide +kernel
theorem dX9_grow_174 : decode cX9_grow 174 = .ok (.aload_n 0, 1) := by decide +kernel
theorem dX9_grow_175 : decode cX9_grow 175 = .ok (.getfield 7, 3) := by decide +kernel
theorem dX9_grow_178 : decode cX9_grow 178 = .ok (.sipush 1115, 3) := by decide +kernel
theorem dX9_grow_181 : decode cX9_grow 181 = .ok (.iload 5, 2) := by decide +kernel
theorem dX9_grow_183 : decode cX9_grow 183 = .ok (.iadd, 1) := by decide +kernel
theorem dX9_grow_184 : decode cX9_grow 184 = .ok (.iaload, 1) := by decide +kernel
theorem dX9_grow_185 : decode cX9_grow 185 = .ok (.invokevirtual 93, 3) := by decide +kernel
theorem dX9_grow_188 : decode cX9_grow 188 = .ok (.iinc 4 1, 3) := by decide +kernel
theorem dX9_grow_191 : decode cX9_grow 191 = .ok (.goto (-101), 3) := by decide +kernel
theorem dX9_grow_194 : decode cX9_grow 194 = .ok (.aload_n 0, 1) := by decide +kernel
theorem dX9_grow_195 : decode cX9_grow 195 = .ok (.getfield 7, 3) := by decide +kernel
theorem dX9_grow_198 : decode cX9_grow 198 = .ok (.iconst 4, 1) := by decide +kernel
theorem dX9_grow_199 : decode cX9_grow 199 = .ok (.dup2, 1) := by decide +kernel
theorem dX9_grow_200 : decode cX9_grow 200 = .ok (.iaload, 1) := by decide +kernel
theorem dX9_grow_201 : decode cX9_grow 201 = .ok (.iconst 2, 1) := by decide +kernel
theorem dX9_grow_202 : decode cX9_grow 202 = .ok (.iadd, 1) := by decide +kernel
theorem dX9_grow_203 : decode cX9_grow 203 = .ok (.iastore, 1) := by decide +kernel
theorem dX9_grow_204 : decode cX9_grow 204 = .ok (.aload_n 0, 1) := by decide +kernel
theorem dX9_grow_205 : decode cX9_grow 205 = .ok (.getfield 7, 3) := by decide +kernel
theorem dX9_grow_208 : decode cX9_grow 208 = .ok (.sipush 1406, 3) := by decide +kernel
theorem dX9_grow_211 : decode cX9_grow 211 = .ok (.dup2, 1) := by decide +kernel
theorem dX9_grow_212 : decode cX9_grow 212 = .ok (.iaload, 1) := by decide +kernel
theorem dX9_grow_213 : decode cX9_grow 213 = .ok (.iconst 1, 1) := by decide +kernel
theorem dX9_grow_214 : decode cX9_grow 214 = .ok (.iadd, 1) := by decide +kernel
theorem dX9_grow_215 : decode cX9_grow 215 = .ok (.iastore, 1) := by decide +kernel
theorem dX9_grow_216 : decode cX9_grow 216 = .ok (.iload_n 3, 1) := by decide +kernel
theorem dX9_grow_217 : decode cX9_grow 217 = .ok (.iconst 2, 1) := by decide +kernel
theorem dX9_grow_218 : decode cX9_grow 218 = .ok (.iadd, 1) := by decide +kernel
theorem dX9_grow_219 : decode cX9_grow 219 = .ok (.ireturn, 1) := by decide +kernel
theorem dX9_pair_0 : decode cX9_pair 0 = .ok (.iload_n 0, 1) := by decide +kernel
theorem dX9_pair_1 : decode cX9_pair 1 = .ok (.iload_n 1, 1) := by decide +kernel
theorem dX9_pair_2 : decode cX9_pair 2 = .ok (.if_icmp .ge 7, 3) := by decide +kernel
theorem dX9_pair_5 : decode cX9_pair 5 = .ok (.iload_n 0, 1) := by decide +kernel
theorem dX9_pair_6 : decode cX9_pair 6 = .ok (.goto 4, 3) := by decide +kernel
theorem dX9_pair_9 : decode cX9_pair 9 = .ok (.iload_n 1, 1) := by decide +kernel
theorem dX9_pair_10 : decode cX9_pair 10 = .ok (.istore_n 2, 1) := by decide +kernel
theorem dX9_pair_11 : decode cX9_pair 11 = .ok (.iload_n 0, 1) := by decide +kernel
theorem dX9_pair_12 : decode cX9_pair 12 = .ok (.iload_n 1, 1) := by decide +kernel
theorem dX9_pair_13 : decode cX9_pair 13 = .ok (.if_icmp .ge 9, 3) := by decide +kernel
theorem dX9_pair_16 : decode cX9_pair 16 = .ok (.iload_n 1, 1) := by decide +kernel
theorem dX9_pair_17 : decode cX9_pair 17 = .ok (.iload_n 0, 1) := by decide +kernel
theorem dX9_pair_18 : decode cX9_pair 18 = .ok (.isub, 1) := by decide +kernel
theorem dX9_pair_19 : decode cX9_pair 19 = .ok (.goto 6, 3) := by decide +kernel
theorem dX9_pair_22 : decode cX9_pair 22 = .ok (.iload_n 0, 1) := by decide +kernel
theorem dX9_pair_23 : decode cX9_pair 23 = .ok (.iload_n 1, 1) := by decide +kernel
theorem dX9_pair_24 : decode cX9_pair 24 = .ok (.isub, 1) := by decide +kernel
theorem dX9_pair_25 : decode cX9_pair 25 = .ok (.istore_n 3, 1) := by decide +kernel
theorem dX9_pair_26 : decode cX9_pair 26 = .ok (.sipush 635, 3) := by decide +kernel
theorem dX9_pair_29 : decode cX9_pair 29 = .ok (.iconst 2, 1) := by decide +kernel
theorem dX9_pair_30 : decode cX9_pair 30 = .ok (.iload_n 2, 1) := by decide +kernel
theorem dX9_pair_31 : decode cX9_pair 31 = .ok (.imul, 1) := by decide +kernel
theorem dX9_pair_32 : decode cX9_pair 32 = .ok (.iadd, 1) := by decide +kernel
theorem dX9_pair_33 : decode cX9_pair 33 = .ok (.iload_n 3, 1) := by decide +kernel
theorem dX9_pair_34 : decode cX9_pair 34 = .ok (.iconst 1, 1) := by decide +kernel
theorem dX9_pair_35 : decode cX9_pair 35 = .ok (.if_icmp .ne 7, 3) := by decide +kernel
theorem dX9_pair_38 : decode cX9_pair 38 = .ok (.iconst 0, 1) := by decide +kernel
theorem dX9_pair_39 : decode cX9_pair 39 = .ok (.goto 4, 3) := by decide +kernel
theorem dX9_pair_42 : decode cX9_pair 42 = .ok (.iconst 1, 1) := by decide +kernel
theorem dX9_pair_43 : decode cX9_pair 43 = .ok (.iadd, 1) := by decide +kernel
theorem dX9_pair_44 : decode cX9_pair 44 = .ok (.ireturn, 1) := by decide +kernel
theorem dX9_areNeighbours_0 : decode cX9_areNeighbours 0 = .ok (.iload_n 0, 1) := by decide +kernel
theorem dX9_areNeighbours_1 : decode cX9_areNeighbours 1 = .ok (.bipush 20, 2) := by decide +kernel
theorem dX9_areNeighbours_3 : decode cX9_areNeighbours 3 = .ok (.irem, 1) := by decide +kernel
theorem dX9_areNeighbours_4 : decode cX9_areNeighbours 4 = .ok (.iload_n 1, 1) := by decide +kernel
theorem dX9_areNeighbours_5 : decode cX9_areNeighbours 5 = .ok (.bipush 20, 2) := by decide +kernel
theorem dX9_areNeighbours_7 : decode cX9_areNeighbours 7 = .ok (.irem, 1) := by decide +kernel
theorem dX9_areNeighbours_8 : decode cX9_areNeighbours 8 = .ok (.isub, 1) := by decide +kernel
theorem dX9_areNeighbours_9 : decode cX9_areNeighbours 9 = .ok (.istore_n 2, 1) := by decide +kernel
theorem dX9_areNeighbours_10 : decode cX9_areNeighbours 10 = .ok (.iload_n 0, 1) := by decide +kernel
theorem dX9_areNeighbours_11 : decode cX9_areNeighbours 11 = .ok (.bipush 20, 2) := by decide +kernel
theorem dX9_areNeighbours_13 : decode cX9_areNeighbours 13 = .ok (.idiv, 1) := by decide +kernel
theorem dX9_areNeighbours_14 : decode cX9_areNeighbours 14 = .ok (.iload_n 1, 1) := by decide +kernel
theorem dX9_areNeighbours_15 : decode cX9_areNeighbours 15 = .ok (.bipush 20, 2) := by decide +kernel
theorem dX9_areNeighbours_17 : decode cX9_areNeighbours 17 = .ok (.idiv, 1) := by decide +kernel
theorem dX9_areNeighbours_18 : decode cX9_areNeighbours 18 = .ok (.isub, 1) := by decide +kernel
theorem dX9_areNeighbours_19 : decode cX9_areNeighbours 19 = .ok (.istore_n 3, 1) := by decide +kernel
theorem dX9_areNeighbours_20 : decode cX9_areNeighbours 20 = .ok (.iload_n 2, 1) := by decide +kernel
theorem dX9_areNeighbours_21 : decode cX9_areNeighbours 21 = .ok (.iload_n 2, 1) := by decide +kernel
theorem dX9_areNeighbours_22 : decode cX9_areNeighbours 22 = .ok (.imul, 1) := by decide +kernel
theorem dX9_areNeighbours_23 : decode cX9_areNeighbours 23 = .ok (.iload_n 3, 1) := by decide +kernel
theorem dX9_areNeighbours_24 : decode cX9_areNeighbours 24 = .ok (.iload_n 3, 1) := by decide +kernel
theorem dX9_areNeighbours_25 : decode cX9_areNeighbours 25 = .ok (.imul, 1) := by decide +kernel
theorem dX9_areNeighbours_26 : decode cX9_areNeighbours 26 = .ok (.iadd, 1) := by decide +kernel
theorem dX9_areNeighbours_27 : decode cX9_areNeighbours 27 = .ok (.iconst 1, 1) := by decide +kernel
theorem dX9_areNeighbours_28 : decode cX9_areNeighbours 28 = .ok (.if_icmp .ne 7, 3) := by decide +kernel
theorem dX9_areNeighbours_31 : decode cX9_areNeighbours 31 = .ok (.iconst 1, 1) := by decide +kernel
theorem dX9_areNeighbours_32 : decode cX9_areNeighbours 32 = .ok (.goto 4, 3) := by decide +kernel
theorem dX9_areNeighbours_35 : decode cX9_areNeighbours 35 = .ok (.iconst 0, 1) := by decide +kernel
theorem dX9_areNeighbours_36 : decode cX9_areNeighbours 36 = .ok (.ireturn, 1) := by decide +kernel
theorem dX9_findNeck_0 : decode cX9_findNeck 0 = .ok (.iconst 0, 1) := by decide +kernel
theorem dX9_findNeck_1 : decode cX9_findNeck 1 = .ok (.istore_n 3, 1) := by decide +kernel
theorem dX9_findNeck_2 : decode cX9_findNeck 2 = .ok (.iconst 0, 1) := by decide +kernel
theorem dX9_findNeck_3 : decode cX9_findNeck 3 = .ok (.istore 4, 2) := by decide +kernel
theorem dX9_findNeck_5 : decode cX9_findNeck 5 = .ok (.aload_n 0, 1) := by decide +kernel
theorem dX9_findNeck_6 : decode cX9_findNeck 6 = .ok (.bipush (-6), 2) := by decide +kernel
theorem dX9_findNeck_8 : decode cX9_findNeck 8 = .ok (.putfield 97, 3) := by decide +kernel
theorem dX9_findNeck_11 : decode cX9_findNeck 11 = .ok (.iconst 0, 1) := by decide +kernel
theorem dX9_findNeck_12 : decode cX9_findNeck 12 = .ok (.istore 5, 2) := by decide +kernel
theorem dX9_findNeck_14 : decode cX9_findNeck 14 = .ok (.iload 5, 2) := by decide +kernel
theorem dX9_findNeck_16 : decode cX9_findNeck 16 = .ok (.aload_n 0, 1) := by decide +kernel
theorem dX9_findNeck_17 : decode cX9_findNeck 17 = .ok (.getfield 7, 3) := by decide +kernel
theorem dX9_findNeck_20 : decode cX9_findNeck 20 = .ok (.iconst 4, 1) := by decide +kernel
theorem dX9_findNeck_21 : decode cX9_findNeck 21 = .ok (.iaload, 1) := by decide +kernel
theorem dX9_findNeck_22 : decode cX9_findNeck 22 = .ok (.if_icmp .ge 176, 3) := by decide +kernel
theorem dX9_findNeck_25 : decode cX9_findNeck 25 = .ok (.iload 5, 2) := by decide +kernel
theorem dX9_findNeck_27 : decode cX9_findNeck 27 = .ok (.iconst 3, 1) := by decide +kernel
theorem dX9_findNeck_28 : decode cX9_findNeck 28 = .ok (.iadd, 1) := by decide +kernel
theorem dX9_findNeck_29 : decode cX9_findNeck 29 = .ok (.istore 6, 2) := by decide +kernel
theorem dX9_findNeck_31 : decode cX9_findNeck 31 = .ok (.iload 6, 2) := by decide +kernel
theorem dX9_findNeck_33 : decode cX9_findNeck 33 = .ok (.aload_n 0, 1) := by decide +kernel
theorem dX9_findNeck_34 : decode cX9_findNeck 34 = .ok (.getfield 7, 3) := by decide +kernel
theorem dX9_findNeck_37 : decode cX9_findNeck 37 = .ok (.iconst 4, 1) := by decide +kernel
theorem dX9_findNeck_38 : decode cX9_findNeck 38 = .ok (.iaload, 1) := by decide +kernel
theorem dX9_findNeck_39 : decode cX9_findNeck 39 = .ok (.if_icmp .ge 153, 3) := by decide +kernel
theorem dX9_findNeck_42 : decode cX9_findNeck 42 = .ok (.aload_n 0, 1) := by decide +kernel
theorem dX9_findNeck_43 : decode cX9_findNeck 43 = .ok (.getfield 7, 3) := by decide +kernel
theorem dX9_findNeck_46 : decode cX9_findNeck 46 = .ok (.iconst 5, 1) := by decide +kernel
theorem dX9_findNeck_47 : decode cX9_findNeck 47 = .ok (.iload 5, 2) := by decide +kernel
theorem dX9_findNeck_49 : decode cX9_findNeck 49 = .ok (.iadd, 1) := by decide +kernel
theorem dX9_findNeck_50 : decode cX9_findNeck 50 = .ok (.iaload, 1) := by decide +kernel
theorem dX9_findNeck_51 : decode cX9_findNeck 51 = .ok (.aload_n 0, 1) := by decide +kernel
theorem dX9_findNeck_52 : decode cX9_findNeck 52 = .ok (.getfield 7, 3) := by decide +kernel
theorem dX9_findNeck_55 : decode cX9_findNeck 55 = .ok (.iconst 5, 1) := by decide +kernel
theorem dX9_findNeck_56 : decode cX9_findNeck 56 = .ok (.iload 6, 2) := by decide +kernel
theorem dX9_findNeck_58 : decode cX9_findNeck 58 = .ok (.iadd, 1) := by decide +kernel
theorem dX9_findNeck_59 : decode cX9_findNeck 59 = .ok (.iaload, 1) := by decide +kernel
theorem dX9_findNeck_60 : decode cX9_findNeck 60 = .ok (.invokestatic 100, 3) := by decide +kernel
theorem dX9_findNeck_63 : decode cX9_findNeck 63 = .ok (.ifCond .eq 123, 3) := by decide +kernel
theorem dX9_findNeck_66 : decode cX9_findNeck 66 = .ok (.iload_n 1, 1) := by decide +kernel
theorem dX9_findNeck_67 : decode cX9_findNeck 67 = .ok (.ifCond .ge 51, 3) := by decide +kernel
theorem dX9_findNeck_70 : decode cX9_findNeck 70 = .ok (.iload 6, 2) := by decide +kernel
theorem dX9_findNeck_72 : decode cX9_findNeck 72 = .ok (.iload 5, 2) := by decide +kernel
theorem dX9_findNeck_74 : decode cX9_findNeck 74 = .ok (.isub, 1) := by decide +kernel
theorem dX9_findNeck_75 : decode cX9_findNeck 75 = .ok (.iload 4, 2) := by decide +kernel
theorem dX9_findNeck_77 : decode cX9_findNeck 77 = .ok (.if_icmp .le 37, 3) := by decide +kernel
theorem dX9_findNeck_80 : decode cX9_findNeck 80 = .ok (.aload_n 0, 1) := by decide +kernel
theorem dX9_findNeck_81 : decode cX9_findNeck 81 = .ok (.getfield 7, 3) := by decide +kernel
theorem dX9_findNeck_84 : decode cX9_findNeck 84 = .ok (.aload_n 0, 1) := by decide +kernel
theorem dX9_findNeck_85 : decode cX9_findNeck 85 = .ok (.getfield 7, 3) := by decide +kernel
theorem dX9_findNeck_88 : decode cX9_findNeck 88 = .ok (.iconst 5, 1) := by decide +kernel
theorem dX9_findNeck_89 : decode cX9_findNeck 89 = .ok (.iload 5, 2) := by decide +kernel
theorem dX9_findNeck_91 : decode cX9_findNeck 91 = .ok (.iadd, 1) := by decide +kernel
theorem dX9_findNeck_92 : decode cX9_findNeck 92 = .ok (.iaload, 1) := by decide +kernel
theorem dX9_findNeck_93 : decode cX9_findNeck 93 = .ok (.aload_n 0, 1) := by decide +kernel
theorem dX9_findNeck_94 : decode cX9_findNeck 94 = .ok (.getfield 7, 3) := by decide +kernel
theorem dX9_findNeck_97 : decode cX9_findNeck 97 = .ok (.iconst 5, 1) := by decide +kernel
theorem dX9_findNeck_98 : decode cX9_findNeck 98 = .ok (.iload 6, 2) := by decide +kernel
theorem dX9_findNeck_100 : decode cX9_findNeck 100 = .ok (.iadd, 1) := by decide +kernel
theorem dX9_findNeck_101 : decode cX9_findNeck 101 = .ok (.iaload, 1) := by decide +kernel
theorem dX9_findNeck_102 : decode cX9_findNeck 102 = .ok (.invokestatic 103, 3) := by decide +kernel
theorem dX9_findNeck_105 : decode cX9_findNeck 105 = .ok (.iaload, 1) := by decide +kernel
theorem dX9_findNeck_106 : decode cX9_findNeck 106 = .ok (.iload_n 2, 1) := by decide +kernel
theorem dX9_findNeck_107 : decode cX9_findNeck 107 = .ok (.if_icmp .lt 7, 3) := by decide +kernel
theorem dX9_findNeck_110 : decode cX9_findNeck 110 = .ok (.iconst 1, 1) := by decide +kernel
theorem dX9_findNeck_111 : decode cX9_findNeck 111 = .ok (.goto 17, 3) := by decide +kernel
theorem dX9_findNeck_114 : decode cX9_findNeck 114 = .ok (.iconst 0, 1) := by decide +kernel
theorem dX9_findNeck_115 : decode cX9_findNeck 115 = .ok (.goto 13, 3) := by decide +kernel
theorem dX9_findNeck_118 : decode cX9_findNeck 118 = .ok (.iload_n 3, 1) := by decide +kernel
theorem dX9_findNeck_119 : decode cX9_findNeck 119 = .ok (.iload_n 1, 1) := by decide +kernel
theorem dX9_findNeck_120 : decode cX9_findNeck 120 = .ok (.if_icmp .ne 7, 3) := by decide +kernel
theorem dX9_findNeck_123 : decode cX9_findNeck 123 = .ok (.iconst 1, 1) := by decide +kernel
theorem dX9_findNeck_124 : decode cX9_findNeck 124 = .ok (.goto 4, 3) := by decide +kernel
theorem dX9_findNeck_127 : decode cX9_findNeck 127 = .ok (.iconst 0, 1) := by decide +kernel
theorem dX9_findNeck_128 : decode cX9_findNeck 128 = .ok (.istore 7, 2) := by decide +kernel
theorem dX9_findNeck_130 : decode cX9_findNeck 130 = .ok (.iload 7, 2) := by decide +kernel
theorem dX9_findNeck_132 : decode cX9_findNeck 132 = .ok (.ifCond .eq 11, 3) := by decide +kernel
theorem dX9_findNeck_135 : decode cX9_findNeck 135 = .ok (.iload 6, 2) := by decide +kernel
theorem dX9_findNeck_137 : decode cX9_findNeck 137 = .ok (.iload 5, 2) := by decide +kernel
theorem dX9_findNeck_139 : decode cX9_findNeck 139 = .ok (.isub, 1) := by decide +kernel
theorem dX9_findNeck_140 : decode cX9_findNeck 140 = .ok (.goto 5, 3) := by decide +kernel
theorem dX9_findNeck_143 : decode cX9_findNeck 143 = .ok (.iload 4, 2) := by decide +kernel
theorem dX9_findNeck_145 : decode cX9_findNeck 145 = .ok (.istore 4, 2) := by decide +kernel
theorem dX9_findNeck_147 : decode cX9_findNeck 147 = .ok (.aload_n 0, 1) := by decide +kernel
theorem dX9_findNeck_148 : decode cX9_findNeck 148 = .ok (.iload 7, 2) := by decide +kernel
theorem dX9_findNeck_150 : decode cX9_findNeck 150 = .ok (.ifCond .eq 8, 3) := by decide +kernel
theorem dX9_findNeck_153 : decode cX9_findNeck 153 = .ok (.iload 5, 2) := by decide +kernel
theorem dX9_findNeck_155 : decode cX9_findNeck 155 = .ok (.goto 7, 3) := by decide +kernel
theorem dX9_findNeck_158 : decode cX9_findNeck 158 = .ok (.aload_n 0, 1) := by decide +kernel
theorem dX9_findNeck_159 : decode cX9_findNeck 159 = .ok (.getfield 97, 3) := by decide +kernel
theorem dX9_findNeck_162 : decode cX9_findNeck 162 = .ok (.putfield 97, 3) := by decide +kernel
theorem dX9_findNeck_165 : decode cX9_findNeck 165 = .ok (.aload_n 0, 1) := by decide +kernel
theorem dX9_findNeck_166 : decode cX9_findNeck 166 = .ok (.iload 7, 2) := by decide +kernel
theorem dX9_findNeck_168 : decode cX9_findNeck 168 = .ok (.ifCond .eq 8, 3) := by decide +kernel
theorem dX9_findNeck_171 : decode cX9_findNeck 171 = .ok (.iload 6, 2) := by decide +kernel
theorem dX9_findNeck_173 : decode cX9_findNeck 173 = .ok (.goto 7, 3) := by decide +kernel
theorem dX9_findNeck_176 : decode cX9_findNeck 176 = .ok (.aload_n 0, 1) := by decide +kernel
theorem dX9_findNeck_177 : decode cX9_findNeck 177 = .ok (.getfield 106, 3) := by decide +kernel
theorem dX9_findNeck_180 : decode cX9_findNeck 180 = .ok (.putfield 106, 3) := by decide +kernel
theorem dX9_findNeck_183 : decode cX9_findNeck 183 = .ok (.iinc 3 1, 3) := by decide +kernel
theorem dX9_findNeck_186 : decode cX9_findNeck 186 = .ok (.iinc 6 1, 3) := by decide +kernel
theorem dX9_findNeck_189 : decode cX9_findNeck 189 = .ok (.goto (-158), 3) := by decide +kernel
theorem dX9_findNeck_192 : decode cX9_findNeck 192 = .ok (.iinc 5 1, 3) := by decide +kernel
theorem dX9_findNeck_195 : decode cX9_findNeck 195 = .ok (.goto (-181), 3) := by decide +kernel
theorem dX9_findNeck_198 : decode cX9_findNeck 198 = .ok (.aload_n 0, 1) := by decide +kernel
theorem dX9_findNeck_199 : decode cX9_findNeck 199 = .ok (.iload_n 3, 1) := by decide +kernel
theorem dX9_findNeck_200 : decode cX9_findNeck 200 = .ok (.putfield 109, 3) := by decide +kernel
theorem dX9_findNeck_203 : decode cX9_findNeck 203 = .ok (.aload_n 0, 1) := by decide +kernel
theorem dX9_findNeck_204 : decode cX9_findNeck 204 = .ok (.getfield 97, 3) := by decide +kernel
theorem dX9_findNeck_207 : decode cX9_findNeck 207 = .ok (.bipush (-6), 2) := by decide +kernel
theorem dX9_findNeck_209 : decode cX9_findNeck 209 = .ok (.if_icmp .eq 7, 3) := by decide +kernel
theorem dX9_findNeck_212 : decode cX9_findNeck 212 = .ok (.iconst 1, 1) := by decide +kernel
theorem dX9_findNeck_213 : decode cX9_findNeck 213 = .ok (.goto 4, 3) := by decide +kernel
theorem dX9_findNeck_216 : decode cX9_findNeck 216 = .ok (.iconst 0, 1) := by decide +kernel
theorem dX9_findNeck_217 : decode cX9_findNeck 217 = .ok (.ireturn, 1) := by decide +kernel
theorem dX9_cutNeck_0 : decode cX9_cutNeck 0 = .ok (.aload_n 0, 1) := by decide +kernel
theorem dX9_cutNeck_1 : decode cX9_cutNeck 1 = .ok (.getfield 7, 3) := by decide +kernel
theorem dX9_cutNeck_4 : decode cX9_cutNeck 4 = .ok (.sipush 1355, 3) := by decide +kernel
theorem dX9_cutNeck_7 : decode cX9_cutNeck 7 = .ok (.iaload, 1) := by decide +kernel
theorem dX9_cutNeck_8 : decode cX9_cutNeck 8 = .ok (.bipush 12, 2) := by decide +kernel
theorem dX9_cutNeck_10 : decode cX9_cutNeck 10 = .ok (.if_icmp .ne 8, 3) := by decide +kernel
theorem dX9_cutNeck_13 : decode cX9_cutNeck 13 = .ok (.aload_n 0, 1) := by decide +kernel
theorem dX9_cutNeck_14 : decode cX9_cutNeck 14 = .ok (.iconst 0, 1) := by decide +kernel
theorem dX9_cutNeck_15 : decode cX9_cutNeck 15 = .ok (.invokevirtual 93, 3) := by decide +kernel
theorem dX9_cutNeck_18 : decode cX9_cutNeck 18 = .ok (.aload_n 0, 1) := by decide +kernel
theorem dX9_cutNeck_19 : decode cX9_cutNeck 19 = .ok (.getfield 7, 3) := by decide +kernel
theorem dX9_cutNeck_22 : decode cX9_cutNeck 22 = .ok (.sipush 1355, 3) := by decide +kernel
theorem dX9_cutNeck_25 : decode cX9_cutNeck 25 = .ok (.iaload, 1) := by decide +kernel
theorem dX9_cutNeck_26 : decode cX9_cutNeck 26 = .ok (.istore_n 1, 1) := by decide +kernel
theorem dX9_cutNeck_27 : decode cX9_cutNeck 27 = .ok (.aload_n 0, 1) := by decide +kernel
theorem dX9_cutNeck_28 : decode cX9_cutNeck 28 = .ok (.getfield 106, 3) := by decide +kernel
theorem dX9_cutNeck_31 : decode cX9_cutNeck 31 = .ok (.aload_n 0, 1) := by decide +kernel
theorem dX9_cutNeck_32 : decode cX9_cutNeck 32 = .ok (.getfield 97, 3) := by decide +kernel
theorem dX9_cutNeck_35 : decode cX9_cutNeck 35 = .ok (.isub, 1) := by decide +kernel
theorem dX9_cutNeck_36 : decode cX9_cutNeck 36 = .ok (.iconst 1, 1) := by decide +kernel
theorem dX9_cutNeck_37 : decode cX9_cutNeck 37 = .ok (.isub, 1) := by decide +kernel
theorem dX9_cutNeck_38 : decode cX9_cutNeck 38 = .ok (.istore_n 2, 1) := by decide +kernel
theorem dX9_cutNeck_39 : decode cX9_cutNeck 39 = .ok (.aload_n 0, 1) := by decide +kernel
theorem dX9_cutNeck_40 : decode cX9_cutNeck 40 = .ok (.getfield 7, 3) := by decide +kernel
theorem dX9_cutNeck_43 : decode cX9_cutNeck 43 = .ok (.sipush 1356, 3) := by decide +kernel
theorem dX9_cutNeck_46 : decode cX9_cutNeck 46 = .ok (.iconst 3, 1) := by decide +kernel
theorem dX9_cutNeck_47 : decode cX9_cutNeck 47 = .ok (.iload_n 1, 1) := by decide +kernel
theorem dX9_cutNeck_48 : decode cX9_cutNeck 48 = .ok (.imul, 1) := by decide +kernel
theorem dX9_cutNeck_49 : decode cX9_cutNeck 49 = .ok (.iadd, 1) := by decide +kernel
theorem dX9_cutNeck_50 : decode cX9_cutNeck 50 = .ok (.iload_n 2, 1) := by decide +kernel
theorem dX9_cutNeck_51 : decode cX9_cutNeck 51 = .ok (.iastore, 1) := by decide +kernel
theorem dX9_cutNeck_52 : decode cX9_cutNeck 52 = .ok (.aload_n 0, 1) := by decide +kernel
theorem dX9_cutNeck_53 : decode cX9_cutNeck 53 = .ok (.getfield 7, 3) := by decide +kernel
theorem dX9_cutNeck_56 : decode cX9_cutNeck 56 = .ok (.sipush 1356, 3) := by decide +kernel
theorem dX9_cutNeck_59 : decode cX9_cutNeck 59 = .ok (.iconst 3, 1) := by decide +kernel
theorem dX9_cutNeck_60 : decode cX9_cutNeck 60 = .ok (.iload_n 1, 1) := by decide +kernel
theorem dX9_cutNeck_61 : decode cX9_cutNeck 61 = .ok (.imul, 1) := by decide +kernel
theorem dX9_cutNeck_62 : decode cX9_cutNeck 62 = .ok (.iadd, 1) := by decide +kernel
theorem dX9_cutNeck_63 : decode cX9_cutNeck 63 = .ok (.iconst 1, 1) := by decide +kernel
theorem dX9_cutNeck_64 : decode cX9_cutNeck 64 = .ok (.iadd, 1) := by decide +kernel
theorem dX9_cutNeck_65 : decode cX9_cutNeck 65 = .ok (.iconst 0, 1) := by decide +kernel
theorem dX9_cutNeck_66 : decode cX9_cutNeck 66 = .ok (.iastore, 1) := by decide +kernel
theorem dX9_cutNeck_67 : decode cX9_cutNeck 67 = .ok (.aload_n 0, 1) := by decide +kernel
theorem dX9_cutNeck_68 : decode cX9_cutNeck 68 = .ok (.getfield 7, 3) := by decide +kernel
theorem dX9_cutNeck_71 : decode cX9_cutNeck 71 = .ok (.sipush 1356, 3) := by decide +kernel
theorem dX9_cutNeck_74 : decode cX9_cutNeck 74 = .ok (.iconst 3, 1) := by decide +kernel
theorem dX9_cutNeck_75 : decode cX9_cutNeck 75 = .ok (.iload_n 1, 1) := by decide +kernel
theorem dX9_cutNeck_76 : decode cX9_cutNeck 76 = .ok (.imul, 1) := by decide +kernel
theorem dX9_cutNeck_77 : decode cX9_cutNeck 77 = .ok (.iadd, 1) := by decide +kernel
theorem dX9_cutNeck_78 : decode cX9_cutNeck 78 = .ok (.iconst 2, 1) := by decide +kernel
theorem dX9_cutNeck_79 : decode cX9_cutNeck 79 = .ok (.iadd, 1) := by decide +kernel
theorem dX9_cutNeck_80 : decode cX9_cutNeck 80 = .ok (.aload_n 0, 1) := by decide +kernel
theorem dX9_cutNeck_81 : decode cX9_cutNeck 81 = .ok (.getfield 7, 3) := by decide +kernel
theorem dX9_cutNeck_84 : decode cX9_cutNeck 84 = .ok (.iconst 5, 1) := by decide +kernel
theorem dX9_cutNeck_85 : decode cX9_cutNeck 85 = .ok (.aload_n 0, 1) := by decide +kernel
theorem dX9_cutNeck_86 : decode cX9_cutNeck 86 = .ok (.getfield 97, 3) := by decide +kernel
theorem dX9_cutNeck_89 : decode cX9_cutNeck 89 = .ok (.iadd, 1) := by decide +kernel
theorem dX9_cutNeck_90 : decode cX9_cutNeck 90 = .ok (.iconst 1, 1) := by decide +kernel
theorem dX9_cutNeck_91 : decode cX9_cutNeck 91 = .ok (.iadd, 1) := by decide +kernel
theorem dX9_cutNeck_92 : decode cX9_cutNeck 92 = .ok (.iaload, 1) := by decide +kernel
theorem dX9_cutNeck_93 : decode cX9_cutNeck 93 = .ok (.iastore, 1) := by decide +kernel
theorem dX9_cutNeck_94 : decode cX9_cutNeck 94 = .ok (.aload_n 0, 1) := by decide +kernel
theorem dX9_cutNeck_95 : decode cX9_cutNeck 95 = .ok (.getfield 97, 3) := by decide +kernel
theorem dX9_cutNeck_98 : decode cX9_cutNeck 98 = .ok (.iconst 1, 1) := by decide +kernel
theorem dX9_cutNeck_99 : decode cX9_cutNeck 99 = .ok (.iadd, 1) := by decide +kernel
theorem dX9_cutNeck_100 : decode cX9_cutNeck 100 = .ok (.istore_n 3, 1) := by decide +kernel
theorem dX9_cutNeck_101 : decode cX9_cutNeck 101 = .ok (.iload_n 3, 1) := by decide +kernel
theorem dX9_cutNeck_102 : decode cX9_cutNeck 102 = .ok (.aload_n 0, 1) := by decide +kernel
theorem dX9_cutNeck_103 : decode cX9_cutNeck 103 = .ok (.getfield 106, 3) := by decide +kernel
theorem dX9_cutNeck_106 : decode cX9_cutNeck 106 = .ok (.if_icmp .ge 27, 3) := by decide +kernel
theorem dX9_cutNeck_109 : decode cX9_cutNeck 109 = .ok (.aload_n 0, 1) := by decide +kernel
theorem dX9_cutNeck_110 : decode cX9_cutNeck 110 = .ok (.getfield 7, 3) := by decide +kernel
theorem dX9_cutNeck_113 : decode cX9_cutNeck 113 = .ok (.sipush 1115, 3) := by decide +kernel
theorem dX9_cutNeck_116 : decode cX9_cutNeck 116 = .ok (.aload_n 0, 1) := by decide +kernel
theorem dX9_cutNeck_117 : decode cX9_cutNeck 117 = .ok (.getfield 7, 3) := by decide +kernel
theorem dX9_cutNeck_120 : decode cX9_cutNeck 120 = .ok (.iconst 5, 1) := by decide +kernel
theorem dX9_cutNeck_121 : decode cX9_cutNeck 121 = .ok (.iload_n 3, 1) := by decide +kernel
theorem dX9_cutNeck_122 : decode cX9_cutNeck 122 = .ok (.iadd, 1) := by decide +kernel
theorem dX9_cutNeck_123 : decode cX9_cutNeck 123 = .ok (.iaload, 1) := by decide +kernel
theorem dX9_cutNeck_124 : decode cX9_cutNeck 124 = .ok (.iadd, 1) := by decide +kernel
theorem dX9_cutNeck_125 : decode cX9_cutNeck 125 = .ok (.iload_n 1, 1) := by decide +kernel
theorem dX9_cutNeck_126 : decode cX9_cutNeck 126 = .ok (.iastore, 1) := by decide +kernel
theorem dX9_cutNeck_127 : decode cX9_cutNeck 127 = .ok (.iinc 3 1, 3) := by decide +kernel
theorem dX9_cutNeck_130 : decode cX9_cutNeck 130 = .ok (.goto (-29), 3) := by decide +kernel
theorem dX9_cutNeck_133 : decode cX9_cutNeck 133 = .ok (.aload_n 0, 1) := by decide +kernel
theorem dX9_cutNeck_134 : decode cX9_cutNeck 134 = .ok (.getfield 7, 3) := by decide +kernel
theorem dX9_cutNeck_137 : decode cX9_cutNeck 137 = .ok (.sipush 1355, 3) := by decide +kernel
theorem dX9_cutNeck_140 : decode cX9_cutNeck 140 = .ok (.dup2, 1) := by decide +kernel
theorem dX9_cutNeck_141 : decode cX9_cutNeck 141 = .ok (.iaload, 1) := by decide +kernel
theorem dX9_cutNeck_142 : decode cX9_cutNeck 142 = .ok (.iconst 1, 1) := by decide +kernel
theorem dX9_cutNeck_143 : decode cX9_cutNeck 143 = .ok (.iadd, 1) := by decide +kernel
theorem dX9_cutNeck_144 : decode cX9_cutNeck 144 = .ok (.iastore, 1) := by decide +kernel
theorem dX9_cutNeck_145 : decode cX9_cutNeck 145 = .ok (.aload_n 0, 1) := by decide +kernel
theorem dX9_cutNeck_146 : decode cX9_cutNeck 146 = .ok (.getfield 7, 3) := by decide +kernel
theorem dX9_cutNeck_149 : decode cX9_cutNeck 149 = .ok (.iconst 4, 1) := by decide +kernel
theorem dX9_cutNeck_150 : decode cX9_cutNeck 150 = .ok (.dup2, 1) := by decide +kernel
theorem dX9_cutNeck_151 : decode cX9_cutNeck 151 = .ok (.iaload, 1) := by decide +kernel
theorem dX9_cutNeck_152 : decode cX9_cutNeck 152 = .ok (.iload_n 2, 1) := by decide +kernel
theorem dX9_cutNeck_153 : decode cX9_cutNeck 153 = .ok (.isub, 1) := by decide +kernel
theorem dX9_cutNeck_154 : decode cX9_cutNeck 154 = .ok (.iastore, 1) := by decide +kernel
theorem dX9_cutNeck_155 : decode cX9_cutNeck 155 = .ok (.aload_n 0, 1) := by decide +kernel
theorem dX9_cutNeck_156 : decode cX9_cutNeck 156 = .ok (.getfield 97, 3) := by decide +kernel
theorem dX9_cutNeck_159 : decode cX9_cutNeck 159 = .ok (.iconst 1, 1) := by decide +kernel
theorem dX9_cutNeck_160 : decode cX9_cutNeck 160 = .ok (.iadd, 1) := by decide +kernel
theorem dX9_cutNeck_161 : decode cX9_cutNeck 161 = .ok (.istore_n 3, 1) := by decide +kernel
theorem dX9_cutNeck_162 : decode cX9_cutNeck 162 = .ok (.iload_n 3, 1) := by decide +kernel
theorem dX9_cutNeck_163 : decode cX9_cutNeck 163 = .ok (.aload_n 0, 1) := by decide +kernel
theorem dX9_cutNeck_164 : decode cX9_cutNeck 164 = .ok (.getfield 7, 3) := by decide +kernel
theorem dX9_cutNeck_167 : decode cX9_cutNeck 167 = .ok (.iconst 4, 1) := by decide +kernel
theorem dX9_cutNeck_168 : decode cX9_cutNeck 168 = .ok (.iaload, 1) := by decide +kernel
theorem dX9_cutNeck_169 : decode cX9_cutNeck 169 = .ok (.if_icmp .ge 27, 3) := by decide +kernel
theorem dX9_cutNeck_172 : decode cX9_cutNeck 172 = .ok (.aload_n 0, 1) := by decide +kernel
theorem dX9_cutNeck_173 : decode cX9_cutNeck 173 = .ok (.getfield 7, 3) := by decide +kernel
theorem dX9_cutNeck_176 : decode cX9_cutNeck 176 = .ok (.iconst 5, 1) := by decide +kernel
theorem dX9_cutNeck_177 : decode cX9_cutNeck 177 = .ok (.iload_n 3, 1) := by decide +kernel
theorem dX9_cutNeck_178 : decode cX9_cutNeck 178 = .ok (.iadd, 1) := by decide +kernel
theorem dX9_cutNeck_179 : decode cX9_cutNeck 179 = .ok (.aload_n 0, 1) := by decide +kernel
theorem dX9_cutNeck_180 : decode cX9_cutNeck 180 = .ok (.getfield 7, 3) := by decide +kernel
theorem dX9_cutNeck_183 : decode cX9_cutNeck 183 = .ok (.iconst 5, 1) := by decide +kernel
theorem dX9_cutNeck_184 : decode cX9_cutNeck 184 = .ok (.iload_n 3, 1) := by decide +kernel
theorem dX9_cutNeck_185 : decode cX9_cutNeck 185 = .ok (.iadd, 1) := by decide +kernel
theorem dX9_cutNeck_186 : decode cX9_cutNeck 186 = .ok (.iload_n 2, 1) := by decide +kernel
theorem dX9_cutNeck_187 : decode cX9_cutNeck 187 = .ok (.iadd, 1) := by decide +kernel
theorem dX9_cutNeck_188 : decode cX9_cutNeck 188 = .ok (.iaload, 1) := by decide +kernel
theorem dX9_cutNeck_189 : decode cX9_cutNeck 189 = .ok (.iastore, 1) := by decide +kernel
theorem dX9_cutNeck_190 : decode cX9_cutNeck 190 = .ok (.iinc 3 1, 3) := by decide +kernel
theorem dX9_cutNeck_193 : decode cX9_cutNeck 193 = .ok (.goto (-31), 3) := by decide +kernel
theorem dX9_cutNeck_196 : decode cX9_cutNeck 196 = .ok (.aload_n 0, 1) := by decide +kernel
theorem dX9_cutNeck_197 : decode cX9_cutNeck 197 = .ok (.getfield 7, 3) := by decide +kernel
theorem dX9_cutNeck_200 : decode cX9_cutNeck 200 = .ok (.sipush 1405, 3) := by decide +kernel
theorem dX9_cutNeck_203 : decode cX9_cutNeck 203 = .ok (.dup2, 1) := by decide +kernel
theorem dX9_cutNeck_204 : decode cX9_cutNeck 204 = .ok (.iaload, 1) := by decide +kernel
theorem dX9_cutNeck_205 : decode cX9_cutNeck 205 = .ok (.iconst 1, 1) := by decide +kernel
theorem dX9_cutNeck_206 : decode cX9_cutNeck 206 = .ok (.iadd, 1) := by decide +kernel
theorem dX9_cutNeck_207 : decode cX9_cutNeck 207 = .ok (.iastore, 1) := by decide +kernel
theorem dX9_cutNeck_208 : decode cX9_cutNeck 208 = .ok (.return_, 1) := by decide +kernel
theorem dX9_isFloodYear_0 : decode cX9_isFloodYear 0 = .ok (.iconst 0, 1) := by decide +kernel
theorem dX9_isFloodYear_1 : decode cX9_isFloodYear 1 = .ok (.istore_n 2, 1) := by decide +kernel
theorem dX9_isFloodYear_2 : decode cX9_isFloodYear 2 = .ok (.iconst 0, 1) := by decide +kernel
theorem dX9_isFloodYear_3 : decode cX9_isFloodYear 3 = .ok (.istore_n 3, 1) := by decide +kernel
theorem dX9_isFloodYear_4 : decode cX9_isFloodYear 4 = .ok (.iload_n 3, 1) := by decide +kernel
theorem dX9_isFloodYear_5 : decode cX9_isFloodYear 5 = .ok (.aload_n 0, 1) := by decide +kernel
theorem dX9_isFloodYear_6 : decode cX9_isFloodYear 6 = .ok (.getfield 7, 3) := by decide +kernel
theorem dX9_isFloodYear_9 : decode cX9_isFloodYear 9 = .ok (.sipush 1395, 3) := by decide +kernel
theorem dX9_isFloodYear_12 : decode cX9_isFloodYear 12 = .ok (.iaload, 1) := by decide +kernel
theorem dX9_isFloodYear_13 : decode cX9_isFloodYear 13 = .ok (.if_icmp .ge 33, 3) := by decide +kernel
theorem dX9_isFloodYear_16 : decode cX9_isFloodYear 16 = .ok (.iload_n 2, 1) := by decide +kernel
theorem dX9_isFloodYear_17 : decode cX9_isFloodYear 17 = .ok (.ifCond .ne 17, 3) := by decide +kernel
theorem dX9_isFloodYear_20 : decode cX9_isFloodYear 20 = .ok (.aload_n 0, 1) := by decide +kernel
theorem dX9_isFloodYear_21 : decode cX9_isFloodYear 21 = .ok (.getfield 7, 3) := by decide +kernel
theorem dX9_isFloodYear_24 : decode cX9_isFloodYear 24 = .ok (.sipush 1396, 3) := by decide +kernel
theorem dX9_isFloodYear_27 : decode cX9_isFloodYear 27 = .ok (.iload_n 3, 1) := by decide +kernel
theorem dX9_isFloodYear_28 : decode cX9_isFloodYear 28 = .ok (.iadd, 1) := by decide +kernel
theorem dX9_isFloodYear_29 : decode cX9_isFloodYear 29 = .ok (.iaload, 1) := by decide +kernel
theorem dX9_isFloodYear_30 : decode cX9_isFloodYear 30 = .ok (.iload_n 1, 1) := by decide +kernel
theorem dX9_isFloodYear_31 : decode cX9_isFloodYear 31 = .ok (.if_icmp .ne 7, 3) := by decide +kernel
theorem dX9_isFloodYear_34 : decode cX9_isFloodYear 34 = .ok (.iconst 1, 1) := by decide +kernel
theorem dX9_isFloodYear_35 : decode cX9_isFloodYear 35 = .ok (.goto 4, 3) := by decide +kernel
theorem dX9_isFloodYear_38 : decode cX9_isFloodYear 38 = .ok (.iconst 0, 1) := by decide +kernel
theorem dX9_isFloodYear_39 : decode cX9_isFloodYear 39 = .ok (.istore_n 2, 1) := by decide +kernel
theorem dX9_isFloodYear_40 : decode cX9_isFloodYear 40 = .ok (.iinc 3 1, 3) := by decide +kernel
theorem dX9_isFloodYear_43 : decode cX9_isFloodYear 43 = .ok (.goto (-39), 3) := by decide +kernel
theorem dX9_isFloodYear_46 : decode cX9_isFloodYear 46 = .ok (.iload_n 2, 1) := by decide +kernel
theorem dX9_isFloodYear_47 : decode cX9_isFloodYear 47 = .ok (.ireturn, 1) := by decide +kernel
theorem dX9_wear_0 : decode cX9_wear 0 = .ok (.aload_n 0, 1) := by decide +kernel
theorem dX9_wear_1 : decode cX9_wear 1 = .ok (.invokevirtual 112, 3) := by decide +kernel
theorem dX9_wear_4 : decode cX9_wear 4 = .ok (.aload_n 0, 1) := by decide +kernel
theorem dX9_wear_5 : decode cX9_wear 5 = .ok (.getfield 7, 3) := by decide +kernel
theorem dX9_wear_8 : decode cX9_wear 8 = .ok (.iconst 0, 1) := by decide +kernel
theorem dX9_wear_9 : decode cX9_wear 9 = .ok (.iaload, 1) := by decide +kernel
theorem dX9_wear_10 : decode cX9_wear 10 = .ok (.aload_n 0, 1) := by decide +kernel
theorem dX9_wear_11 : decode cX9_wear 11 = .ok (.aload_n 0, 1) := by decide +kernel
theorem dX9_wear_12 : decode cX9_wear 12 = .ok (.getfield 7, 3) := by decide +kernel
theorem dX9_wear_15 : decode cX9_wear 15 = .ok (.sipush 1404, 3) := by decide +kernel
theorem dX9_wear_18 : decode cX9_wear 18 = .ok (.iaload, 1) := by decide +kernel
theorem dX9_wear_19 : decode cX9_wear 19 = .ok (.invokevirtual 115, 3) := by decide +kernel
theorem dX9_wear_22 : decode cX9_wear 22 = .ok (.ifCond .eq 7, 3) := by decide +kernel
theorem dX9_wear_25 : decode cX9_wear 25 = .ok (.iconst 2, 1) := by decide +kernel
theorem dX9_wear_26 : decode cX9_wear 26 = .ok (.goto 4, 3) := by decide +kernel
theorem dX9_wear_29 : decode cX9_wear 29 = .ok (.iconst 1, 1) := by decide +kernel
theorem dX9_wear_30 : decode cX9_wear 30 = .ok (.imul, 1) := by decide +kernel
theorem dX9_wear_31 : decode cX9_wear 31 = .ok (.istore_n 1, 1) := by decide +kernel
theorem dX9_wear_32 : decode cX9_wear 32 = .ok (.iconst 0, 1) := by decide +kernel
theorem dX9_wear_33 : decode cX9_wear 33 = .ok (.istore_n 2, 1) := by decide +kernel
theorem dX9_wear_34 : decode cX9_wear 34 = .ok (.iload_n 2, 1) := by decide +kernel
theorem dX9_wear_35 : decode cX9_wear 35 = .ok (.aload_n 0, 1) := by decide +kernel
theorem dX9_wear_36 : decode cX9_wear 36 = .ok (.getfield 62, 3) := by decide +kernel
theorem dX9_wear_39 : decode cX9_wear 39 = .ok (.if_icmp .ge 104, 3) := by decide +kernel
theorem dX9_wear_42 : decode cX9_wear 42 = .ok (.aload_n 0, 1) := by decide +kernel
theorem dX9_wear_43 : decode cX9_wear 43 = .ok (.iload_n 2, 1) := by decide +kernel
theorem dX9_wear_44 : decode cX9_wear 44 = .ok (.invokevirtual 79, 3) := by decide +kernel
theorem dX9_wear_47 : decode cX9_wear 47 = .ok (.ifCond .ne 90, 3) := by decide +kernel
theorem dX9_wear_50 : decode cX9_wear 50 = .ok (.aload_n 0, 1) := by decide +kernel
theorem dX9_wear_51 : decode cX9_wear 51 = .ok (.getfield 29, 3) := by decide +kernel
theorem dX9_wear_54 : decode cX9_wear 54 = .ok (.iload_n 2, 1) := by decide +kernel
theorem dX9_wear_55 : decode cX9_wear 55 = .ok (.iaload, 1) := by decide +kernel
theorem dX9_wear_56 : decode cX9_wear 56 = .ok (.istore_n 3, 1) := by decide +kernel
theorem dX9_wear_57 : decode cX9_wear 57 = .ok (.iload_n 3, 1) := by decide +kernel
theorem dX9_wear_58 : decode cX9_wear 58 = .ok (.aload_n 0, 1) := by decide +kernel
theorem dX9_wear_59 : decode cX9_wear 59 = .ok (.getfield 32, 3) := by decide +kernel
theorem dX9_wear_62 : decode cX9_wear 62 = .ok (.iload_n 2, 1) := by decide +kernel
theorem dX9_wear_63 : decode cX9_wear 63 = .ok (.iaload, 1) := by decide +kernel
theorem dX9_wear_64 : decode cX9_wear 64 = .ok (.if_icmp .gt 73, 3) := by decide +kernel
theorem dX9_wear_67 : decode cX9_wear 67 = .ok (.aload_n 0, 1) := by decide +kernel
theorem dX9_wear_68 : decode cX9_wear 68 = .ok (.iload_n 2, 1) := by decide +kernel
theorem dX9_wear_69 : decode cX9_wear 69 = .ok (.iload_n 3, 1) := by decide +kernel
theorem dX9_wear_70 : decode cX9_wear 70 = .ok (.invokevirtual 76, 3) := by decide +kernel
theorem dX9_wear_73 : decode cX9_wear 73 = .ok (.istore 4, 2) := by decide +kernel
theorem dX9_wear_75 : decode cX9_wear 75 = .ok (.aload_n 0, 1) := by decide +kernel
theorem dX9_wear_76 : decode cX9_wear 76 = .ok (.getfield 7, 3) := by decide +kernel
theorem dX9_wear_79 : decode cX9_wear 79 = .ok (.sipush 155, 3) := by decide +kernel
theorem dX9_wear_82 : decode cX9_wear 82 = .ok (.iload 4, 2) := by decide +kernel
theorem dX9_wear_84 : decode cX9_wear 84 = .ok (.iadd, 1) := by decide +kernel
theorem dX9_wear_85 : decode cX9_wear 85 = .ok (.iaload, 1) := by decide +kernel
theorem dX9_wear_86 : decode cX9_wear 86 = .ok (.iload_n 1, 1) := by decide +kernel
theorem dX9_wear_87 : decode cX9_wear 87 = .ok (.iadd, 1) := by decide +kernel
theorem dX9_wear_88 : decode cX9_wear 88 = .ok (.istore 5, 2) := by decide +kernel
theorem dX9_wear_90 : decode cX9_wear 90 = .ok (.aload_n 0, 1) := by decide +kernel
theorem dX9_wear_91 : decode cX9_wear 91 = .ok (.getfield 7, 3) := by decide +kernel
theorem dX9_wear_94 : decode cX9_wear 94 = .ok (.sipush 155, 3) := by decide +kernel
theorem dX9_wear_97 : decode cX9_wear 97 = .ok (.iload 4, 2) := by decide +kernel
theorem dX9_wear_99 : decode cX9_wear 99 = .ok (.iadd, 1) := by decide +kernel
theorem dX9_wear_100 : decode cX9_wear 100 = .ok (.iload 5, 2) := by decide +kernel
theorem dX9_wear_102 : decode cX9_wear 102 = .ok (.bipush 99, 2) := by decide +kernel
theorem dX9_wear_104 : decode cX9_wear 104 = .ok (.if_icmp .gt 19, 3) := by decide +kernel
theorem dX9_wear_107 : decode cX9_wear 107 = .ok (.aload_n 0, 1) := by decide +kernel
theorem dX9_wear_108 : decode cX9_wear 108 = .ok (.getfield 7, 3) := by decide +kernel
theorem dX9_wear_111 : decode cX9_wear 111 = .ok (.sipush 1115, 3) := by decide +kernel
theorem dX9_wear_114 : decode cX9_wear 114 = .ok (.iload 4, 2) := by decide +kernel
theorem dX9_wear_116 : decode cX9_wear 116 = .ok (.iadd, 1) := by decide +kernel
theorem dX9_wear_117 : decode cX9_wear 117 = .ok (.iaload, 1) := by decide +kernel
theorem dX9_wear_118 : decode cX9_wear 118 = .ok (.bipush (-6), 2) := by decide +kernel
theorem dX9_wear_120 : decode cX9_wear 120 = .ok (.if_icmp .eq 8, 3) := by decide +kernel
theorem dX9_wear_123 : decode cX9_wear 123 = .ok (.bipush 99, 2) := by decide +kernel
theorem dX9_wear_125 : decode cX9_wear 125 = .ok (.goto 5, 3) := by decide +kernel
theorem dX9_wear_128 : decode cX9_wear 128 = .ok (.iload 5, 2) := by decide +kernel
theorem dX9_wear_130 : decode cX9_wear 130 = .ok (.iastore, 1) := by decide +kernel
theorem dX9_wear_131 : decode cX9_wear 131 = .ok (.iinc 3 1, 3) := by decide +kernel
theorem dX9_wear_134 : decode cX9_wear 134 = .ok (.goto (-77), 3) := by decide +kernel
theorem dX9_wear_137 : decode cX9_wear 137 = .ok (.iinc 2 1, 3) := by decide +kernel
theorem dX9_wear_140 : decode cX9_wear 140 = .ok (.goto (-106), 3) := by decide +kernel
theorem dX9_wear_143 : decode cX9_wear 143 = .ok (.return_, 1) := by decide +kernel
theorem dX9_growAll_0 : decode cX9_growAll 0 = .ok (.iconst 0, 1) := by decide +kernel
theorem dX9_growAll_1 : decode cX9_growAll 1 = .ok (.istore_n 1, 1) := by decide +kernel
theorem dX9_growAll_2 : decode cX9_growAll 2 = .ok (.iconst 1, 1) := by decide +kernel
theorem dX9_growAll_3 : decode cX9_growAll 3 = .ok (.istore_n 2, 1) := by decide +kernel
theorem dX9_growAll_4 : decode cX9_growAll 4 = .ok (.iload_n 2, 1) := by decide +kernel
theorem dX9_growAll_5 : decode cX9_growAll 5 = .ok (.ifCond .eq 66, 3) := by decide +kernel
theorem dX9_growAll_8 : decode cX9_growAll 8 = .ok (.aload_n 0, 1) := by decide +kernel
theorem dX9_growAll_9 : decode cX9_growAll 9 = .ok (.invokevirtual 112, 3) := by decide +kernel
theorem dX9_growAll_12 : decode cX9_growAll 12 = .ok (.iconst 0, 1) := by decide +kernel
theorem dX9_growAll_13 : decode cX9_growAll 13 = .ok (.istore_n 2, 1) := by decide +kernel
theorem dX9_growAll_14 : decode cX9_growAll 14 = .ok (.iconst 0, 1) := by decide +kernel
theorem dX9_growAll_15 : decode cX9_growAll 15 = .ok (.istore_n 3, 1) := by decide +kernel
theorem dX9_growAll_16 : decode cX9_growAll 16 = .ok (.iload_n 3, 1) := by decide +kernel
theorem dX9_growAll_17 : decode cX9_growAll 17 = .ok (.aload_n 0, 1) := by decide +kernel
theorem dX9_growAll_18 : decode cX9_growAll 18 = .ok (.getfield 62, 3) := by decide +kernel
theorem dX9_growAll_21 : decode cX9_growAll 21 = .ok (.if_icmp .ge 47, 3) := by decide +kernel
theorem dX9_growAll_24 : decode cX9_growAll 24 = .ok (.iload_n 2, 1) := by decide +kernel
theorem dX9_growAll_25 : decode cX9_growAll 25 = .ok (.ifCond .ne 43, 3) := by decide +kernel
theorem dX9_growAll_28 : decode cX9_growAll 28 = .ok (.aload_n 0, 1) := by decide +kernel
theorem dX9_growAll_29 : decode cX9_growAll 29 = .ok (.getfield 29, 3) := by decide +kernel
theorem dX9_growAll_32 : decode cX9_growAll 32 = .ok (.iload_n 3, 1) := by decide +kernel
theorem dX9_growAll_33 : decode cX9_growAll 33 = .ok (.iaload, 1) := by decide +kernel
theorem dX9_growAll_34 : decode cX9_growAll 34 = .ok (.iload_n 1, 1) := by decide +kernel
theorem dX9_growAll_35 : decode cX9_growAll 35 = .ok (.if_icmp .lt 15, 3) := by decide +kernel
theorem dX9_growAll_38 : decode cX9_growAll 38 = .ok (.aload_n 0, 1) := by decide +kernel
theorem dX9_growAll_39 : decode cX9_growAll 39 = .ok (.iload_n 3, 1) := by decide +kernel
theorem dX9_growAll_40 : decode cX9_growAll 40 = .ok (.invokevirtual 118, 3) := by decide +kernel
theorem dX9_growAll_43 : decode cX9_growAll 43 = .ok (.ifCond .eq 7, 3) := by decide +kernel
theorem dX9_growAll_46 : decode cX9_growAll 46 = .ok (.iconst 1, 1) := by decide +kernel
theorem dX9_growAll_47 : decode cX9_growAll 47 = .ok (.goto 4, 3) := by decide +kernel
theorem dX9_growAll_50 : decode cX9_growAll 50 = .ok (.iconst 0, 1) := by decide +kernel
theorem dX9_growAll_51 : decode cX9_growAll 51 = .ok (.istore_n 2, 1) := by decide +kernel
theorem dX9_growAll_52 : decode cX9_growAll 52 = .ok (.iload_n 2, 1) := by decide +kernel
theorem dX9_growAll_53 : decode cX9_growAll 53 = .ok (.ifCond .eq 9, 3) := by decide +kernel
theorem dX9_growAll_56 : decode cX9_growAll 56 = .ok (.aload_n 0, 1) := by decide +kernel
theorem dX9_growAll_57 : decode cX9_growAll 57 = .ok (.iload_n 3, 1) := by decide +kernel
theorem dX9_growAll_58 : decode cX9_growAll 58 = .ok (.invokevirtual 121, 3) := by decide +kernel
theorem dX9_growAll_61 : decode cX9_growAll 61 = .ok (.istore_n 1, 1) := by decide +kernel
theorem dX9_growAll_62 : decode cX9_growAll 62 = .ok (.iinc 3 1, 3) := by decide +kernel
theorem dX9_growAll_65 : decode cX9_growAll 65 = .ok (.goto (-49), 3) := by decide +kernel
theorem dX9_growAll_68 : decode cX9_growAll 68 = .ok (.goto (-64), 3) := by decide +kernel
theorem dX9_growAll_71 : decode cX9_growAll 71 = .ok (.return_, 1) := by decide +kernel
theorem dX9_age_0 : decode cX9_age 0 = .ok (.iconst 0, 1) := by decide +kernel
theorem dX9_age_1 : decode cX9_age 1 = .ok (.istore_n 1, 1) := by decide +kernel
theorem dX9_age_2 : decode cX9_age 2 = .ok (.iload_n 1, 1) := by decide +kernel
theorem dX9_age_3 : decode cX9_age 3 = .ok (.sipush 480, 3) := by decide +kernel
theorem dX9_age_6 : decode cX9_age 6 = .ok (.if_icmp .ge 16, 3) := by decide +kernel
theorem dX9_age_9 : decode cX9_age 9 = .ok (.aload_n 0, 1) := by decide +kernel
theorem dX9_age_10 : decode cX9_age 10 = .ok (.getfield 41, 3) := by decide +kernel
theorem dX9_age_13 : decode cX9_age 13 = .ok (.iload_n 1, 1) := by decide +kernel
theorem dX9_age_14 : decode cX9_age 14 = .ok (.iconst 0, 1) := by decide +kernel
theorem dX9_age_15 : decode cX9_age 15 = .ok (.bastore, 1) := by decide +kernel
theorem dX9_age_16 : decode cX9_age 16 = .ok (.iinc 1 1, 3) := by decide +kernel
theorem dX9_age_19 : decode cX9_age 19 = .ok (.goto (-17), 3) := by decide +kernel
theorem dX9_age_22 : decode cX9_age 22 = .ok (.iconst 0, 1) := by decide +kernel
theorem dX9_age_23 : decode cX9_age 23 = .ok (.istore_n 1, 1) := by decide +kernel
theorem dX9_age_24 : decode cX9_age 24 = .ok (.iload_n 1, 1) := by decide +kernel
theorem dX9_age_25 : decode cX9_age 25 = .ok (.aload_n 0, 1) := by decide +kernel
theorem dX9_age_26 : decode cX9_age 26 = .ok (.getfield 7, 3) := by decide +kernel
theorem dX9_age_29 : decode cX9_age 29 = .ok (.iconst 4, 1) := by decide +kernel
theorem dX9_age_30 : decode cX9_age 30 = .ok (.iaload, 1) := by decide +kernel
theorem dX9_age_31 : decode cX9_age 31 = .ok (.if_icmp .ge 80, 3) := by decide +kernel
theorem dX9_age_34 : decode cX9_age 34 = .ok (.iload_n 1, 1) := by decide +kernel
theorem dX9_age_35 : decode cX9_age 35 = .ok (.iconst 3, 1) := by decide +kernel
theorem dX9_age_36 : decode cX9_age 36 = .ok (.iadd, 1) := by decide +kernel
theorem dX9_age_37 : decode cX9_age 37 = .ok (.istore_n 2, 1) := by decide +kernel
theorem dX9_age_38 : decode cX9_age 38 = .ok (.iload_n 2, 1) := by decide +kernel
theorem dX9_age_39 : decode cX9_age 39 = .ok (.aload_n 0, 1) := by decide +kernel
theorem dX9_age_40 : decode cX9_age 40 = .ok (.getfield 7, 3) := by decide +kernel
theorem dX9_age_43 : decode cX9_age 43 = .ok (.iconst 4, 1) := by decide +kernel
theorem dX9_age_44 : decode cX9_age 44 = .ok (.iaload, 1) := by decide +kernel
theorem dX9_age_45 : decode cX9_age 45 = .ok (.if_icmp .ge 60, 3) := by decide +kernel
theorem dX9_age_48 : decode cX9_age 48 = .ok (.aload_n 0, 1) := by decide +kernel
theorem dX9_age_49 : decode cX9_age 49 = .ok (.getfield 7, 3) := by decide +kernel
theorem dX9_age_52 : decode cX9_age 52 = .ok (.iconst 5, 1) := by decide +kernel
theorem dX9_age_53 : decode cX9_age 53 = .ok (.iload_n 1, 1) := by decide +kernel
theorem dX9_age_54 : decode cX9_age 54 = .ok (.iadd, 1) := by decide +kernel
theorem dX9_age_55 : decode cX9_age 55 = .ok (.iaload, 1) := by decide +kernel
theorem dX9_age_56 : decode cX9_age 56 = .ok (.aload_n 0, 1) := by decide +kernel
theorem dX9_age_57 : decode cX9_age 57 = .ok (.getfield 7, 3) := by decide +kernel
theorem dX9_age_60 : decode cX9_age 60 = .ok (.iconst 5, 1) := by decide +kernel
theorem dX9_age_61 : decode cX9_age 61 = .ok (.iload_n 2, 1) := by decide +kernel
theorem dX9_age_62 : decode cX9_age 62 = .ok (.iadd, 1) := by decide +kernel
theorem dX9_age_63 : decode cX9_age 63 = .ok (.iaload, 1) := by decide +kernel
theorem dX9_age_64 : decode cX9_age 64 = .ok (.invokestatic 100, 3) := by decide +kernel
theorem dX9_age_67 : decode cX9_age 67 = .ok (.ifCond .eq 32, 3) := by decide +kernel
theorem dX9_age_70 : decode cX9_age 70 = .ok (.aload_n 0, 1) := by decide +kernel
theorem dX9_age_71 : decode cX9_age 71 = .ok (.getfield 41, 3) := by decide +kernel
theorem dX9_age_74 : decode cX9_age 74 = .ok (.aload_n 0, 1) := by decide +kernel
theorem dX9_age_75 : decode cX9_age 75 = .ok (.getfield 7, 3) := by decide +kernel
theorem dX9_age_78 : decode cX9_age 78 = .ok (.iconst 5, 1) := by decide +kernel
theorem dX9_age_79 : decode cX9_age 79 = .ok (.iload_n 1, 1) := by decide +kernel
theorem dX9_age_80 : decode cX9_age 80 = .ok (.iadd, 1) := by decide +kernel
theorem dX9_age_81 : decode cX9_age 81 = .ok (.iaload, 1) := by decide +kernel
theorem dX9_age_82 : decode cX9_age 82 = .ok (.aload_n 0, 1) := by decide +kernel
theorem dX9_age_83 : decode cX9_age 83 = .ok (.getfield 7, 3) := by decide +kernel
theorem dX9_age_86 : decode cX9_age 86 = .ok (.iconst 5, 1) := by decide +kernel
theorem dX9_age_87 : decode cX9_age 87 = .ok (.iload_n 2, 1) := by decide +kernel
theorem dX9_age_88 : decode cX9_age 88 = .ok (.iadd, 1) := by decide +kernel
theorem dX9_age_89 : decode cX9_age 89 = .ok (.iaload, 1) := by decide +kernel
theorem dX9_age_90 : decode cX9_age 90 = .ok (.invokestatic 103, 3) := by decide +kernel
theorem dX9_age_93 : decode cX9_age 93 = .ok (.sipush 635, 3) := by decide +kernel
theorem dX9_age_96 : decode cX9_age 96 = .ok (.isub, 1) := by decide +kernel
theorem dX9_age_97 : decode cX9_age 97 = .ok (.iconst 1, 1) := by decide +kernel
theorem dX9_age_98 : decode cX9_age 98 = .ok (.bastore, 1) := by decide +kernel
theorem dX9_age_99 : decode cX9_age 99 = .ok (.iinc 2 1, 3) := by decide +kernel
theorem dX9_age_102 : decode cX9_age 102 = .ok (.goto (-64), 3) := by decide +kernel
theorem dX9_age_105 : decode cX9_age 105 = .ok (.iinc 1 1, 3) := by decide +kernel
theorem dX9_age_108 : decode cX9_age 108 = .ok (.goto (-84), 3) := by decide +kernel
theorem dX9_age_111 : decode cX9_age 111 = .ok (.iconst 0, 1) := by decide +kernel
theorem dX9_age_112 : decode cX9_age 112 = .ok (.istore_n 1, 1) := by decide +kernel
theorem dX9_age_113 : decode cX9_age 113 = .ok (.iload_n 1, 1) := by decide +kernel
theorem dX9_age_114 : decode cX9_age 114 = .ok (.sipush 480, 3) := by decide +kernel
theorem dX9_age_117 : decode cX9_age 117 = .ok (.if_icmp .ge 44, 3) := by decide +kernel
theorem dX9_age_120 : decode cX9_age 120 = .ok (.aload_n 0, 1) := by decide +kernel
theorem dX9_age_121 : decode cX9_age 121 = .ok (.getfield 7, 3) := by decide +kernel
theorem dX9_age_124 : decode cX9_age 124 = .ok (.sipush 635, 3) := by decide +kernel
theorem dX9_age_127 : decode cX9_age 127 = .ok (.iload_n 1, 1) := by decide +kernel
theorem dX9_age_128 : decode cX9_age 128 = .ok (.iadd, 1) := by decide +kernel
theorem dX9_age_129 : decode cX9_age 129 = .ok (.aload_n 0, 1) := by decide +kernel
theorem dX9_age_130 : decode cX9_age 130 = .ok (.getfield 41, 3) := by decide +kernel
theorem dX9_age_133 : decode cX9_age 133 = .ok (.iload_n 1, 1) := by decide +kernel
theorem dX9_age_134 : decode cX9_age 134 = .ok (.baload, 1) := by decide +kernel
theorem dX9_age_135 : decode cX9_age 135 = .ok (.ifCond .eq 18, 3) := by decide +kernel
theorem dX9_age_138 : decode cX9_age 138 = .ok (.aload_n 0, 1) := by decide +kernel
theorem dX9_age_139 : decode cX9_age 139 = .ok (.getfield 7, 3) := by decide +kernel
theorem dX9_age_142 : decode cX9_age 142 = .ok (.sipush 635, 3) := by decide +kernel
theorem dX9_age_145 : decode cX9_age 145 = .ok (.iload_n 1, 1) := by decide +kernel
theorem dX9_age_146 : decode cX9_age 146 = .ok (.iadd, 1) := by decide +kernel
theorem dX9_age_147 : decode cX9_age 147 = .ok (.iaload, 1) := by decide +kernel
theorem dX9_age_148 : decode cX9_age 148 = .ok (.iconst 1, 1) := by decide +kernel
theorem dX9_age_149 : decode cX9_age 149 = .ok (.iadd, 1) := by decide +kernel
theorem dX9_age_150 : decode cX9_age 150 = .ok (.goto 4, 3) := by decide +kernel
theorem dX9_age_153 : decode cX9_age 153 = .ok (.iconst 0, 1) := by decide +kernel
theorem dX9_age_154 : decode cX9_age 154 = .ok (.iastore, 1) := by decide +kernel
theorem dX9_age_155 : decode cX9_age 155 = .ok (.iinc 1 1, 3) := by decide +kernel
theorem dX9_age_158 : decode cX9_age 158 = .ok (.goto (-45), 3) := by decide +kernel
theorem dX9_age_161 : decode cX9_age 161 = .ok (.return_, 1) := by decide +kernel
theorem dX9_goOn_0 : decode cX9_goOn 0 = .ok (.aload_n 0, 1) := by decide +kernel
theorem dX9_goOn_1 : decode cX9_goOn 1 = .ok (.invokevirtual 124, 3) := by decide +kernel
theorem dX9_goOn_4 : decode cX9_goOn 4 = .ok (.aload_n 0, 1) := by decide +kernel
theorem dX9_goOn_5 : decode cX9_goOn 5 = .ok (.invokevirtual 127, 3) := by decide +kernel
theorem dX9_goOn_8 : decode cX9_goOn 8 = .ok (.aload_n 0, 1) := by decide +kernel
theorem dX9_goOn_9 : decode cX9_goOn 9 = .ok (.invokevirtual 130, 3) := by decide +kernel
theorem dX9_goOn_12 : decode cX9_goOn 12 = .ok (.aload_n 0, 1) := by decide +kernel
theorem dX9_goOn_13 : decode cX9_goOn 13 = .ok (.getfield 7, 3) := by decide +kernel
theorem dX9_goOn_16 : decode cX9_goOn 16 = .ok (.iconst 4, 1) := by decide +kernel
theorem dX9_goOn_17 : decode cX9_goOn 17 = .ok (.iaload, 1) := by decide +kernel
theorem dX9_goOn_18 : decode cX9_goOn 18 = .ok (.istore_n 1, 1) := by decide +kernel
theorem dX9_goOn_19 : decode cX9_goOn 19 = .ok (.aload_n 0, 1) := by decide +kernel
theorem dX9_goOn_20 : decode cX9_goOn 20 = .ok (.aload_n 0, 1) := by decide +kernel
theorem dX9_goOn_21 : decode cX9_goOn 21 = .ok (.getfield 7, 3) := by decide +kernel
theorem dX9_goOn_24 : decode cX9_goOn 24 = .ok (.sipush 1404, 3) := by decide +kernel
theorem dX9_goOn_27 : decode cX9_goOn 27 = .ok (.iaload, 1) := by decide +kernel
theorem dX9_goOn_28 : decode cX9_goOn 28 = .ok (.invokevirtual 115, 3) := by decide +kernel
theorem dX9_goOn_31 : decode cX9_goOn 31 = .ok (.ifCond .eq 7, 3) := by decide +kernel
theorem dX9_goOn_34 : decode cX9_goOn 34 = .ok (.iconst 0, 1) := by decide +kernel
theorem dX9_goOn_35 : decode cX9_goOn 35 = .ok (.goto 9, 3) := by decide +kernel
theorem dX9_goOn_38 : decode cX9_goOn 38 = .ok (.aload_n 0, 1) := by decide +kernel
theorem dX9_goOn_39 : decode cX9_goOn 39 = .ok (.getfield 7, 3) := by decide +kernel
theorem dX9_goOn_42 : decode cX9_goOn 42 = .ok (.iconst 2, 1) := by decide +kernel
theorem dX9_goOn_43 : decode cX9_goOn 43 = .ok (.iaload, 1) := by decide +kernel
theorem dX9_goOn_44 : decode cX9_goOn 44 = .ok (.istore_n 2, 1) := by decide +kernel
theorem dX9_goOn_45 : decode cX9_goOn 45 = .ok (.aload_n 0, 1) := by decide +kernel
theorem dX9_goOn_46 : decode cX9_goOn 46 = .ok (.iconst (-1), 1) := by decide +kernel
theorem dX9_goOn_47 : decode cX9_goOn 47 = .ok (.iload_n 2, 1) := by decide +kernel
theorem dX9_goOn_48 : decode cX9_goOn 48 = .ok (.invokevirtual 133, 3) := by decide +kernel
theorem dX9_goOn_51 : decode cX9_goOn 51 = .ok (.ifCond .eq 10, 3) := by decide +kernel
theorem dX9_goOn_54 : decode cX9_goOn 54 = .ok (.aload_n 0, 1) := by decide +kernel
theorem dX9_goOn_55 : decode cX9_goOn 55 = .ok (.invokevirtual 136, 3) := by decide +kernel
theorem dX9_goOn_58 : decode cX9_goOn 58 = .ok (.goto (-13), 3) := by decide +kernel
theorem dX9_goOn_61 : decode cX9_goOn 61 = .ok (.aload_n 0, 1) := by decide +kernel
theorem dX9_goOn_62 : decode cX9_goOn 62 = .ok (.getfield 7, 3) := by decide +kernel
theorem dX9_goOn_65 : decode cX9_goOn 65 = .ok (.sipush 1355, 3) := by decide +kernel
theorem dX9_goOn_68 : decode cX9_goOn 68 = .ok (.iaload, 1) := by decide +kernel
theorem dX9_goOn_69 : decode cX9_goOn 69 = .ok (.iconst 1, 1) := by decide +kernel
theorem dX9_goOn_70 : decode cX9_goOn 70 = .ok (.isub, 1) := by decide +kernel
theorem dX9_goOn_71 : decode cX9_goOn 71 = .ok (.istore_n 3, 1) := by decide +kernel
theorem dX9_goOn_72 : decode cX9_goOn 72 = .ok (.iload_n 3, 1) := by decide +kernel
theorem dX9_goOn_73 : decode cX9_goOn 73 = .ok (.ifCond .lt 55, 3) := by decide +kernel
theorem dX9_goOn_76 : decode cX9_goOn 76 = .ok (.aload_n 0, 1) := by decide +kernel
theorem dX9_goOn_77 : decode cX9_goOn 77 = .ok (.getfield 7, 3) := by decide +kernel
theorem dX9_goOn_80 : decode cX9_goOn 80 = .ok (.sipush 1356, 3) := by decide +kernel
theorem dX9_goOn_83 : decode cX9_goOn 83 = .ok (.iconst 3, 1) := by decide +kernel
theorem dX9_goOn_84 : decode cX9_goOn 84 = .ok (.iload_n 3, 1) := by decide +kernel
theorem dX9_goOn_85 : decode cX9_goOn 85 = .ok (.imul, 1) := by decide +kernel
theorem dX9_goOn_86 : decode cX9_goOn 86 = .ok (.iadd, 1) := by decide +kernel
theorem dX9_goOn_87 : decode cX9_goOn 87 = .ok (.iconst 1, 1) := by decide +kernel
theorem dX9_goOn_88 : decode cX9_goOn 88 = .ok (.iadd, 1) := by decide +kernel
theorem dX9_goOn_89 : decode cX9_goOn 89 = .ok (.dup2, 1) := by decide +kernel
theorem dX9_goOn_90 : decode cX9_goOn 90 = .ok (.iaload, 1) := by decide +kernel
theorem dX9_goOn_91 : decode cX9_goOn 91 = .ok (.iconst 1, 1) := by decide +kernel
theorem dX9_goOn_92 : decode cX9_goOn 92 = .ok (.iadd, 1) := by decide +kernel
theorem dX9_goOn_93 : decode cX9_goOn 93 = .ok (.iastore, 1) := by decide +kernel
theorem dX9_goOn_94 : decode cX9_goOn 94 = .ok (.aload_n 0, 1) := by decide +kernel
theorem dX9_goOn_95 : decode cX9_goOn 95 = .ok (.getfield 7, 3) := by decide +kernel
theorem dX9_goOn_98 : decode cX9_goOn 98 = .ok (.sipush 1356, 3) := by decide +kernel
theorem dX9_goOn_101 : decode cX9_goOn 101 = .ok (.iconst 3, 1) := by decide +kernel
theorem dX9_goOn_102 : decode cX9_goOn 102 = .ok (.iload_n 3, 1) := by decide +kernel
theorem dX9_goOn_103 : decode cX9_goOn 103 = .ok (.imul, 1) := by decide +kernel
theorem dX9_goOn_104 : decode cX9_goOn 104 = .ok (.iadd, 1) := by decide +kernel
theorem dX9_goOn_105 : decode cX9_goOn 105 = .ok (.iconst 1, 1) := by decide +kernel
theorem dX9_goOn_106 : decode cX9_goOn 106 = .ok (.iadd, 1) := by decide +kernel
theorem dX9_goOn_107 : decode cX9_goOn 107 = .ok (.iaload, 1) := by decide +kernel
theorem dX9_goOn_108 : decode cX9_goOn 108 = .ok (.aload_n 0, 1) := by decide +kernel
theorem dX9_goOn_109 : decode cX9_goOn 109 = .ok (.getfield 7, 3) := by decide +kernel
theorem dX9_goOn_112 : decode cX9_goOn 112 = .ok (.iconst 3, 1) := by decide +kernel
theorem dX9_goOn_113 : decode cX9_goOn 113 = .ok (.iaload, 1) := by decide +kernel
theorem dX9_goOn_114 : decode cX9_goOn 114 = .ok (.if_icmp .lt 8, 3) := by decide +kernel
theorem dX9_goOn_117 : decode cX9_goOn 117 = .ok (.aload_n 0, 1) := by decide +kernel
theorem dX9_goOn_118 : decode cX9_goOn 118 = .ok (.iload_n 3, 1) := by decide +kernel
theorem dX9_goOn_119 : decode cX9_goOn 119 = .ok (.invokevirtual 93, 3) := by decide +kernel
theorem dX9_goOn_122 : decode cX9_goOn 122 = .ok (.iinc 3 (-1), 3) := by decide +kernel
theorem dX9_goOn_125 : decode cX9_goOn 125 = .ok (.goto (-53), 3) := by decide +kernel
theorem dX9_goOn_128 : decode cX9_goOn 128 = .ok (.aload_n 0, 1) := by decide +kernel
theorem dX9_goOn_129 : decode cX9_goOn 129 = .ok (.getfield 7, 3) := by decide +kernel
theorem dX9_goOn_132 : decode cX9_goOn 132 = .ok (.sipush 1404, 3) := by decide +kernel
theorem dX9_goOn_135 : decode cX9_goOn 135 = .ok (.dup2, 1) := by decide +kernel
theorem dX9_goOn_136 : decode cX9_goOn 136 = .ok (.iaload, 1) := by decide +kernel
theorem dX9_goOn_137 : decode cX9_goOn 137 = .ok (.iconst 1, 1) := by decide +kernel
theorem dX9_goOn_138 : decode cX9_goOn 138 = .ok (.iadd, 1) := by decide +kernel
theorem dX9_goOn_139 : decode cX9_goOn 139 = .ok (.iastore, 1) := by decide +kernel
theorem dX9_goOn_140 : decode cX9_goOn 140 = .ok (.iload_n 1, 1) := by decide +kernel
theorem dX9_goOn_141 : decode cX9_goOn 141 = .ok (.aload_n 0, 1) := by decide +kernel
theorem dX9_goOn_142 : decode cX9_goOn 142 = .ok (.getfield 7, 3) := by decide +kernel
theorem dX9_goOn_145 : decode cX9_goOn 145 = .ok (.iconst 4, 1) := by decide +kernel
theorem dX9_goOn_146 : decode cX9_goOn 146 = .ok (.iaload, 1) := by decide +kernel
theorem dX9_goOn_147 : decode cX9_goOn 147 = .ok (.isub, 1) := by decide +kernel
theorem dX9_goOn_148 : decode cX9_goOn 148 = .ok (.ireturn, 1) := by decide +kernel
theorem dX9_set_0 : decode cX9_set 0 = .ok (.iload_n 1, 1) := by decide +kernel
theorem dX9_set_1 : decode cX9_set 1 = .ok (.ifCond .ne 8, 3) := by decide +kernel
theorem dX9_set_4 : decode cX9_set 4 = .ok (.bipush 9, 2) := by decide +kernel
theorem dX9_set_6 : decode cX9_set 6 = .ok (.goto 25, 3) := by decide +kernel
theorem dX9_set_9 : decode cX9_set 9 = .ok (.iload_n 1, 1) := by decide +kernel
theorem dX9_set_10 : decode cX9_set 10 = .ok (.iconst 1, 1) := by decide +kernel
theorem dX9_set_11 : decode cX9_set 11 = .ok (.if_icmp .ne 8, 3) := by decide +kernel
theorem dX9_set_14 : decode cX9_set 14 = .ok (.bipush 60, 2) := by decide +kernel
theorem dX9_set_16 : decode cX9_set 16 = .ok (.goto 15, 3) := by decide +kernel
theorem dX9_set_19 : decode cX9_set 19 = .ok (.iload_n 1, 1) := by decide +kernel
theorem dX9_set_20 : decode cX9_set 20 = .ok (.iconst 2, 1) := by decide +kernel
theorem dX9_set_21 : decode cX9_set 21 = .ok (.if_icmp .ne 8, 3) := by decide +kernel
theorem dX9_set_24 : decode cX9_set 24 = .ok (.bipush 20, 2) := by decide +kernel
theorem dX9_set_26 : decode cX9_set 26 = .ok (.goto 5, 3) := by decide +kernel
theorem dX9_set_29 : decode cX9_set 29 = .ok (.bipush 50, 2) := by decide +kernel
theorem dX9_set_31 : decode cX9_set 31 = .ok (.istore_n 3, 1) := by decide +kernel
theorem dX9_set_32 : decode cX9_set 32 = .ok (.iload_n 1, 1) := by decide +kernel
theorem dX9_set_33 : decode cX9_set 33 = .ok (.iconst 0, 1) := by decide +kernel
theorem dX9_set_34 : decode cX9_set 34 = .ok (.iconst 3, 1) := by decide +kernel
theorem dX9_set_35 : decode cX9_set 35 = .ok (.invokestatic 50, 3) := by decide +kernel
theorem dX9_set_38 : decode cX9_set 38 = .ok (.ifCond .eq 12, 3) := by decide +kernel
theorem dX9_set_41 : decode cX9_set 41 = .ok (.iload_n 2, 1) := by decide +kernel
theorem dX9_set_42 : decode cX9_set 42 = .ok (.iconst 1, 1) := by decide +kernel
theorem dX9_set_43 : decode cX9_set 43 = .ok (.iload_n 3, 1) := by decide +kernel
theorem dX9_set_44 : decode cX9_set 44 = .ok (.invokestatic 50, 3) := by decide +kernel
theorem dX9_set_47 : decode cX9_set 47 = .ok (.ifCond .ne 6, 3) := by decide +kernel
theorem dX9_set_50 : decode cX9_set 50 = .ok (.bipush (-2), 2) := by decide +kernel
theorem dX9_set_52 : decode cX9_set 52 = .ok (.ireturn, 1) := by decide +kernel
theorem dX9_set_53 : decode cX9_set 53 = .ok (.aload_n 0, 1) := by decide +kernel
theorem dX9_set_54 : decode cX9_set 54 = .ok (.invokevirtual 139, 3) := by decide +kernel
theorem dX9_set_57 : decode cX9_set 57 = .ok (.aload_n 0, 1) := by decide +kernel
theorem dX9_set_58 : decode cX9_set 58 = .ok (.getfield 7, 3) := by decide +kernel
theorem dX9_set_61 : decode cX9_set 61 = .ok (.iconst 0, 1) := by decide +kernel
theorem dX9_set_62 : decode cX9_set 62 = .ok (.iload_n 1, 1) := by decide +kernel
theorem dX9_set_63 : decode cX9_set 63 = .ok (.iadd, 1) := by decide +kernel
theorem dX9_set_64 : decode cX9_set 64 = .ok (.iaload, 1) := by decide +kernel
theorem dX9_set_65 : decode cX9_set 65 = .ok (.istore 4, 2) := by decide +kernel
theorem dX9_set_67 : decode cX9_set 67 = .ok (.aload_n 0, 1) := by decide +kernel
theorem dX9_set_68 : decode cX9_set 68 = .ok (.getfield 7, 3) := by decide +kernel
theorem dX9_set_71 : decode cX9_set 71 = .ok (.iconst 0, 1) := by decide +kernel
theorem dX9_set_72 : decode cX9_set 72 = .ok (.iload_n 1, 1) := by decide +kernel
theorem dX9_set_73 : decode cX9_set 73 = .ok (.iadd, 1) := by decide +kernel
theorem dX9_set_74 : decode cX9_set 74 = .ok (.iload_n 2, 1) := by decide +kernel
theorem dX9_set_75 : decode cX9_set 75 = .ok (.iastore, 1) := by decide +kernel
theorem dX9_set_76 : decode cX9_set 76 = .ok (.iload 4, 2) := by decide +kernel
theorem dX9_set_78 : decode cX9_set 78 = .ok (.ireturn, 1) := by decide +kernel
theorem dX9_dikes_0 : decode cX9_dikes 0 = .ok (.iconst 0, 1) := by decide +kernel
theorem dX9_dikes_1 : decode cX9_dikes 1 = .ok (.istore_n 1, 1) := by decide +kernel
theorem dX9_dikes_2 : decode cX9_dikes 2 = .ok (.iconst 0, 1) := by decide +kernel
theorem dX9_dikes_3 : decode cX9_dikes 3 = .ok (.istore_n 2, 1) := by decide +kernel
theorem dX9_dikes_4 : decode cX9_dikes 4 = .ok (.iload_n 2, 1) := by decide +kernel
theorem dX9_dikes_5 : decode cX9_dikes 5 = .ok (.sipush 240, 3) := by decide +kernel
theorem dX9_dikes_8 : decode cX9_dikes 8 = .ok (.if_icmp .ge 22, 3) := by decide +kernel
theorem dX9_dikes_11 : decode cX9_dikes 11 = .ok (.iload_n 1, 1) := by decide +kernel
theorem dX9_dikes_12 : decode cX9_dikes 12 = .ok (.aload_n 0, 1) := by decide +kernel
theorem dX9_dikes_13 : decode cX9_dikes 13 = .ok (.getfield 7, 3) := by decide +kernel
theorem dX9_dikes_16 : decode cX9_dikes 16 = .ok (.sipush 395, 3) := by decide +kernel
theorem dX9_dikes_19 : decode cX9_dikes 19 = .ok (.iload_n 2, 1) := by decide +kernel
theorem dX9_dikes_20 : decode cX9_dikes 20 = .ok (.iadd, 1) := by decide +kernel
theorem dX9_dikes_21 : decode cX9_dikes 21 = .ok (.iaload, 1) := by decide +kernel
theorem dX9_dikes_22 : decode cX9_dikes 22 = .ok (.iadd, 1) := by decide +kernel
theorem dX9_dikes_23 : decode cX9_dikes 23 = .ok (.istore_n 1, 1) := by decide +kernel
theorem dX9_dikes_24 : decode cX9_dikes 24 = .ok (.iinc 2 1, 3) := by decide +kernel
theorem dX9_dikes_27 : decode cX9_dikes 27 = .ok (.goto (-23), 3) := by decide +kernel
theorem dX9_dikes_30 : decode cX9_dikes 30 = .ok (.iload_n 1, 1) := by decide +kernel
theorem dX9_dikes_31 : decode cX9_dikes 31 = .ok (.ireturn, 1) := by decide +kernel
theorem dX9_dike_0 : decode cX9_dike 0 = .ok (.iload_n 1, 1) := by decide +kernel
theorem dX9_dike_1 : decode cX9_dike 1 = .ok (.iload_n 2, 1) := by decide +kernel
theorem dX9_dike_2 : decode cX9_dike 2 = .ok (.invokestatic 58, 3) := by decide +kernel
theorem dX9_dike_5 : decode cX9_dike 5 = .ok (.ifCond .ne 5, 3) := by decide +kernel
theorem dX9_dike_8 : decode cX9_dike 8 = .ok (.iconst (-1), 1) := by decide +kernel
theorem dX9_dike_9 : decode cX9_dike 9 = .ok (.ireturn, 1) := by decide +kernel
theorem dX9_dike_10 : decode cX9_dike 10 = .ok (.bipush 20, 2) := by decide +kernel
theorem dX9_dike_12 : decode cX9_dike 12 = .ok (.iload_n 2, 1) := by decide +kernel
theorem dX9_dike_13 : decode cX9_dike 13 = .ok (.imul, 1) := by decide +kernel
theorem dX9_dike_14 : decode cX9_dike 14 = .ok (.iload_n 1, 1) := by decide +kernel
theorem dX9_dike_15 : decode cX9_dike 15 = .ok (.iadd, 1) := by decide +kernel
theorem dX9_dike_16 : decode cX9_dike 16 = .ok (.istore 4, 2) := by decide +kernel
theorem dX9_dike_18 : decode cX9_dike 18 = .ok (.aload_n 0, 1) := by decide +kernel
theorem dX9_dike_19 : decode cX9_dike 19 = .ok (.iload 4, 2) := by decide +kernel
theorem dX9_dike_21 : decode cX9_dike 21 = .ok (.invokevirtual 142, 3) := by decide +kernel
theorem dX9_dike_24 : decode cX9_dike 24 = .ok (.bipush (-6), 2) := by decide +kernel
theorem dX9_dike_26 : decode cX9_dike 26 = .ok (.if_icmp .ne 27, 3) := by decide +kernel
theorem dX9_dike_29 : decode cX9_dike 29 = .ok (.aload_n 0, 1) := by decide +kernel
theorem dX9_dike_30 : decode cX9_dike 30 = .ok (.getfield 7, 3) := by decide +kernel
theorem dX9_dike_33 : decode cX9_dike 33 = .ok (.sipush 395, 3) := by decide +kernel
theorem dX9_dike_36 : decode cX9_dike 36 = .ok (.iload 4, 2) := by decide +kernel
theorem dX9_dike_38 : decode cX9_dike 38 = .ok (.iadd, 1) := by decide +kernel
theorem dX9_dike_39 : decode cX9_dike 39 = .ok (.iaload, 1) := by decide +kernel
theorem dX9_dike_40 : decode cX9_dike 40 = .ok (.iconst 1, 1) := by decide +kernel
theorem dX9_dike_41 : decode cX9_dike 41 = .ok (.if_icmp .ne 7, 3) := by decide +kernel
theorem dX9_dike_44 : decode cX9_dike 44 = .ok (.iconst 1, 1) := by decide +kernel
theorem dX9_dike_45 : decode cX9_dike 45 = .ok (.goto 4, 3) := by decide +kernel
theorem dX9_dike_48 : decode cX9_dike 48 = .ok (.iconst 0, 1) := by decide +kernel
theorem dX9_dike_49 : decode cX9_dike 49 = .ok (.iload_n 3, 1) := by decide +kernel
theorem dX9_dike_50 : decode cX9_dike 50 = .ok (.if_icmp .ne 6, 3) := by decide +kernel
theorem dX9_dike_53 : decode cX9_dike 53 = .ok (.bipush (-5), 2) := by decide +kernel
theorem dX9_dike_55 : decode cX9_dike 55 = .ok (.ireturn, 1) := by decide +kernel
theorem dX9_dike_56 : decode cX9_dike 56 = .ok (.aload_n 0, 1) := by decide +kernel
theorem dX9_dike_57 : decode cX9_dike 57 = .ok (.invokevirtual 139, 3) := by decide +kernel
theorem dX9_dike_60 : decode cX9_dike 60 = .ok (.aload_n 0, 1) := by decide +kernel
theorem dX9_dike_61 : decode cX9_dike 61 = .ok (.getfield 7, 3) := by decide +kernel
theorem dX9_dike_64 : decode cX9_dike 64 = .ok (.sipush 395, 3) := by decide +kernel
theorem dX9_dike_67 : decode cX9_dike 67 = .ok (.iload 4, 2) := by decide +kernel
theorem dX9_dike_69 : decode cX9_dike 69 = .ok (.iadd, 1) := by decide +kernel
theorem dX9_dike_70 : decode cX9_dike 70 = .ok (.iload_n 3, 1) := by decide +kernel
theorem dX9_dike_71 : decode cX9_dike 71 = .ok (.ifCond .eq 7, 3) := by decide +kernel
theorem dX9_dike_74 : decode cX9_dike 74 = .ok (.iconst 1, 1) := by decide +kernel
theorem dX9_dike_75 : decode cX9_dike 75 = .ok (.goto 4, 3) := by decide +kernel
theorem dX9_dike_78 : decode cX9_dike 78 = .ok (.iconst 0, 1) := by decide +kernel
theorem dX9_dike_79 : decode cX9_dike 79 = .ok (.iastore, 1) := by decide +kernel
theorem dX9_dike_80 : decode cX9_dike 80 = .ok (.aload_n 0, 1) := by decide +kernel
theorem dX9_dike_81 : decode cX9_dike 81 = .ok (.invokevirtual 145, 3) := by decide +kernel
theorem dX9_dike_84 : decode cX9_dike 84 = .ok (.ireturn, 1) := by decide +kernel
theorem dX9_flood_0 : decode cX9_flood 0 = .ok (.iload_n 1, 1) := by decide +kernel
theorem dX9_flood_1 : decode cX9_flood 1 = .ok (.aload_n 0, 1) := by decide +kernel
theorem dX9_flood_2 : decode cX9_flood 2 = .ok (.getfield 7, 3) := by decide +kernel
theorem dX9_flood_5 : decode cX9_flood 5 = .ok (.sipush 1404, 3) := by decide +kernel
theorem dX9_flood_8 : decode cX9_flood 8 = .ok (.iaload, 1) := by decide +kernel
theorem dX9_flood_9 : decode cX9_flood 9 = .ok (.sipush 999, 3) := by decide +kernel
theorem dX9_flood_12 : decode cX9_flood 12 = .ok (.invokestatic 50, 3) := by decide +kernel
theorem dX9_flood_15 : decode cX9_flood 15 = .ok (.ifCond .ne 6, 3) := by decide +kernel
theorem dX9_flood_18 : decode cX9_flood 18 = .ok (.bipush (-2), 2) := by decide +kernel
theorem dX9_flood_20 : decode cX9_flood 20 = .ok (.ireturn, 1) := by decide +kernel
theorem dX9_flood_21 : decode cX9_flood 21 = .ok (.aload_n 0, 1) := by decide +kernel
theorem dX9_flood_22 : decode cX9_flood 22 = .ok (.iload_n 1, 1) := by decide +kernel
theorem dX9_flood_23 : decode cX9_flood 23 = .ok (.invokevirtual 115, 3) := by decide +kernel
theorem dX9_flood_26 : decode cX9_flood 26 = .ok (.iload_n 2, 1) := by decide +kernel
theorem dX9_flood_27 : decode cX9_flood 27 = .ok (.if_icmp .ne 6, 3) := by decide +kernel
theorem dX9_flood_30 : decode cX9_flood 30 = .ok (.bipush (-5), 2) := by decide +kernel
theorem dX9_flood_32 : decode cX9_flood 32 = .ok (.ireturn, 1) := by decide +kernel
theorem dX9_flood_33 : decode cX9_flood 33 = .ok (.iload_n 2, 1) := by decide +kernel
theorem dX9_flood_34 : decode cX9_flood 34 = .ok (.ifCond .eq 19, 3) := by decide +kernel
theorem dX9_flood_37 : decode cX9_flood 37 = .ok (.aload_n 0, 1) := by decide +kernel
theorem dX9_flood_38 : decode cX9_flood 38 = .ok (.getfield 7, 3) := by decide +kernel
theorem dX9_flood_41 : decode cX9_flood 41 = .ok (.sipush 1395, 3) := by decide +kernel
theorem dX9_flood_44 : decode cX9_flood 44 = .ok (.iaload, 1) := by decide +kernel
theorem dX9_flood_45 : decode cX9_flood 45 = .ok (.bipush 8, 2) := by decide +kernel
theorem dX9_flood_47 : decode cX9_flood 47 = .ok (.if_icmp .ne 6, 3) := by decide +kernel
theorem dX9_flood_50 : decode cX9_flood 50 = .ok (.bipush (-4), 2) := by decide +kernel
theorem dX9_flood_52 : decode cX9_flood 52 = .ok (.ireturn, 1) := by decide +kernel
theorem dX9_flood_53 : decode cX9_flood 53 = .ok (.aload_n 0, 1) := by decide +kernel
theorem dX9_flood_54 : decode cX9_flood 54 = .ok (.invokevirtual 139, 3) := by decide +kernel
theorem dX9_flood_57 : decode cX9_flood 57 = .ok (.iload_n 2, 1) := by decide +kernel
theorem dX9_flood_58 : decode cX9_flood 58 = .ok (.ifCond .eq 36, 3) := by decide +kernel
theorem dX9_flood_61 : decode cX9_flood 61 = .ok (.aload_n 0, 1) := by decide +kernel
theorem dX9_flood_62 : decode cX9_flood 62 = .ok (.getfield 7, 3) := by decide +kernel
theorem dX9_flood_65 : decode cX9_flood 65 = .ok (.sipush 1396, 3) := by decide +kernel
theorem dX9_flood_68 : decode cX9_flood 68 = .ok (.aload_n 0, 1) := by decide +kernel
theorem dX9_flood_69 : decode cX9_flood 69 = .ok (.getfield 7, 3) := by decide +kernel
theorem dX9_flood_72 : decode cX9_flood 72 = .ok (.sipush 1395, 3) := by decide +kernel
theorem dX9_flood_75 : decode cX9_flood 75 = .ok (.iaload, 1) := by decide +kernel
theorem dX9_flood_76 : decode cX9_flood 76 = .ok (.iadd, 1) := by decide +kernel
theorem dX9_flood_77 : decode cX9_flood 77 = .ok (.iload_n 1, 1) := by decide +kernel
theorem dX9_flood_78 : decode cX9_flood 78 = .ok (.iastore, 1) := by decide +kernel
theorem dX9_flood_79 : decode cX9_flood 79 = .ok (.aload_n 0, 1) := by decide +kernel
theorem dX9_flood_80 : decode cX9_flood 80 = .ok (.getfield 7, 3) := by decide +kernel
theorem dX9_flood_83 : decode cX9_flood 83 = .ok (.sipush 1395, 3) := by decide +kernel
theorem dX9_flood_86 : decode cX9_flood 86 = .ok (.dup2, 1) := by decide +kernel
theorem dX9_flood_87 : decode cX9_flood 87 = .ok (.iaload, 1) := by decide +kernel
theorem dX9_flood_88 : decode cX9_flood 88 = .ok (.iconst 1, 1) := by decide +kernel
theorem dX9_flood_89 : decode cX9_flood 89 = .ok (.iadd, 1) := by decide +kernel
theorem dX9_flood_90 : decode cX9_flood 90 = .ok (.iastore, 1) := by decide +kernel
theorem dX9_flood_91 : decode cX9_flood 91 = .ok (.goto 106, 3) := by decide +kernel
theorem dX9_flood_94 : decode cX9_flood 94 = .ok (.aload_n 0, 1) := by decide +kernel
theorem dX9_flood_95 : decode cX9_flood 95 = .ok (.getfield 7, 3) := by decide +kernel
theorem dX9_flood_98 : decode cX9_flood 98 = .ok (.sipush 1395, 3) := by decide +kernel
theorem dX9_flood_101 : decode cX9_flood 101 = .ok (.dup2, 1) := by decide +kernel
theorem dX9_flood_102 : decode cX9_flood 102 = .ok (.iaload, 1) := by decide +kernel
theorem dX9_flood_103 : decode cX9_flood 103 = .ok (.iconst 1, 1) := by decide +kernel
theorem dX9_flood_104 : decode cX9_flood 104 = .ok (.isub, 1) := by decide +kernel
theorem dX9_flood_105 : decode cX9_flood 105 = .ok (.iastore, 1) := by decide +kernel
theorem dX9_flood_106 : decode cX9_flood 106 = .ok (.iconst 0, 1) := by decide +kernel
theorem dX9_flood_107 : decode cX9_flood 107 = .ok (.istore_n 3, 1) := by decide +kernel
theorem dX9_flood_108 : decode cX9_flood 108 = .ok (.iconst 0, 1) := by decide +kernel
theorem dX9_flood_109 : decode cX9_flood 109 = .ok (.istore 4, 2) := by decide +kernel
theorem dX9_flood_111 : decode cX9_flood 111 = .ok (.iload 4, 2) := by decide +kernel
theorem dX9_flood_113 : decode cX9_flood 113 = .ok (.aload_n 0, 1) := by decide +kernel
theorem dX9_flood_114 : decode cX9_flood 114 = .ok (.getfield 7, 3) := by decide +kernel
theorem dX9_flood_117 : decode cX9_flood 117 = .ok (.sipush 1395, 3) := by decide +kernel
theorem dX9_flood_120 : decode cX9_flood 120 = .ok (.iaload, 1) := by decide +kernel
theorem dX9_flood_121 : decode cX9_flood 121 = .ok (.if_icmp .ge 76, 3) := by decide +kernel
theorem dX9_flood_124 : decode cX9_flood 124 = .ok (.iload_n 3, 1) := by decide +kernel
theorem dX9_flood_125 : decode cX9_flood 125 = .ok (.ifCond .ne 18, 3) := by decide +kernel
theorem dX9_flood_128 : decode cX9_flood 128 = .ok (.aload_n 0, 1) := by decide +kernel
theorem dX9_flood_129 : decode cX9_flood 129 = .ok (.getfield 7, 3) := by decide +kernel
theorem dX9_flood_132 : decode cX9_flood 132 = .ok (.sipush 1396, 3) := by decide +kernel
theorem dX9_flood_135 : decode cX9_flood 135 = .ok (.iload 4, 2) := by decide +kernel
theorem dX9_flood_137 : decode cX9_flood 137 = .ok (.iadd, 1) := by decide +kernel
theorem dX9_flood_138 : decode cX9_flood 138 = .ok (.iaload, 1) := by decide +kernel
theorem dX9_flood_139 : decode cX9_flood 139 = .ok (.iload_n 1, 1) := by decide +kernel
theorem dX9_flood_140 : decode cX9_flood 140 = .ok (.if_icmp .ne 7, 3) := by decide +kernel
theorem dX9_flood_143 : decode cX9_flood 143 = .ok (.iconst 1, 1) := by decide +kernel
theorem dX9_flood_144 : decode cX9_flood 144 = .ok (.goto 4, 3) := by decide +kernel
theorem dX9_flood_147 : decode cX9_flood 147 = .ok (.iconst 0, 1) := by decide +kernel
theorem dX9_flood_148 : decode cX9_flood 148 = .ok (.istore_n 3, 1) := by decide +kernel
theorem dX9_flood_149 : decode cX9_flood 149 = .ok (.aload_n 0, 1) := by decide +kernel
theorem dX9_flood_150 : decode cX9_flood 150 = .ok (.getfield 7, 3) := by decide +kernel
theorem dX9_flood_153 : decode cX9_flood 153 = .ok (.sipush 1396, 3) := by decide +kernel
theorem dX9_flood_156 : decode cX9_flood 156 = .ok (.iload 4, 2) := by decide +kernel
theorem dX9_flood_158 : decode cX9_flood 158 = .ok (.iadd, 1) := by decide +kernel
theorem dX9_flood_159 : decode cX9_flood 159 = .ok (.iload_n 3, 1) := by decide +kernel
theorem dX9_flood_160 : decode cX9_flood 160 = .ok (.ifCond .eq 19, 3) := by decide +kernel
theorem dX9_flood_163 : decode cX9_flood 163 = .ok (.aload_n 0, 1) := by decide +kernel
theorem dX9_flood_164 : decode cX9_flood 164 = .ok (.getfield 7, 3) := by decide +kernel
theorem dX9_flood_167 : decode cX9_flood 167 = .ok (.sipush 1396, 3) := by decide +kernel
theorem dX9_flood_170 : decode cX9_flood 170 = .ok (.iload 4, 2) := by decide +kernel
theorem dX9_flood_172 : decode cX9_flood 172 = .ok (.iadd, 1) := by decide +kernel
theorem dX9_flood_173 : decode cX9_flood 173 = .ok (.iconst 1, 1) := by decide +kernel
theorem dX9_flood_174 : decode cX9_flood 174 = .ok (.iadd, 1) := by decide +kernel
theorem dX9_flood_175 : decode cX9_flood 175 = .ok (.iaload, 1) := by decide +kernel
theorem dX9_flood_176 : decode cX9_flood 176 = .ok (.goto 14, 3) := by decide +kernel
theorem dX9_flood_179 : decode cX9_flood 179 = .ok (.aload_n 0, 1) := by decide +kernel
theorem dX9_flood_180 : decode cX9_flood 180 = .ok (.getfield 7, 3) := by decide +kernel
theorem dX9_flood_183 : decode cX9_flood 183 = .ok (.sipush 1396, 3) := by decide +kernel
theorem dX9_flood_186 : decode cX9_flood 186 = .ok (.iload 4, 2) := by decide +kernel
theorem dX9_flood_188 : decode cX9_flood 188 = .ok (.iadd, 1) := by decide +kernel
theorem dX9_flood_189 : decode cX9_flood 189 = .ok (.iaload, 1) := by decide +kernel
theorem dX9_flood_190 : decode cX9_flood 190 = .ok (.iastore, 1) := by decide +kernel
theorem dX9_flood_191 : decode cX9_flood 191 = .ok (.iinc 4 1, 3) := by decide +kernel
theorem dX9_flood_194 : decode cX9_flood 194 = .ok (.goto (-83), 3) := by decide +kernel
theorem dX9_flood_197 : decode cX9_flood 197 = .ok (.aload_n 0, 1) := by decide +kernel
theorem dX9_flood_198 : decode cX9_flood 198 = .ok (.getfield 7, 3) := by decide +kernel
theorem dX9_flood_201 : decode cX9_flood 201 = .ok (.sipush 1395, 3) := by decide +kernel
theorem dX9_flood_204 : decode cX9_flood 204 = .ok (.iaload, 1) := by decide +kernel
theorem dX9_flood_205 : decode cX9_flood 205 = .ok (.ireturn, 1) := by decide +kernel
theorem dX9_cut_0 : decode cX9_cut 0 = .ok (.iload_n 1, 1) := by decide +kernel
theorem dX9_cut_1 : decode cX9_cut 1 = .ok (.ifCond .lt 12, 3) := by decide +kernel
theorem dX9_cut_4 : decode cX9_cut 4 = .ok (.aload_n 0, 1) := by decide +kernel
theorem dX9_cut_5 : decode cX9_cut 5 = .ok (.iload_n 1, 1) := by decide +kernel
theorem dX9_cut_6 : decode cX9_cut 6 = .ok (.iconst 0, 1) := by decide +kernel
theorem dX9_cut_7 : decode cX9_cut 7 = .ok (.invokevirtual 133, 3) := by decide +kernel
theorem dX9_cut_10 : decode cX9_cut 10 = .ok (.ifCond .ne 5, 3) := by decide +kernel
theorem dX9_cut_13 : decode cX9_cut 13 = .ok (.iconst (-1), 1) := by decide +kernel
theorem dX9_cut_14 : decode cX9_cut 14 = .ok (.ireturn, 1) := by decide +kernel
theorem dX9_cut_15 : decode cX9_cut 15 = .ok (.aload_n 0, 1) := by decide +kernel
theorem dX9_cut_16 : decode cX9_cut 16 = .ok (.invokevirtual 139, 3) := by decide +kernel
theorem dX9_cut_19 : decode cX9_cut 19 = .ok (.aload_n 0, 1) := by decide +kernel
theorem dX9_cut_20 : decode cX9_cut 20 = .ok (.invokevirtual 136, 3) := by decide +kernel
theorem dX9_cut_23 : decode cX9_cut 23 = .ok (.aload_n 0, 1) := by decide +kernel
theorem dX9_cut_24 : decode cX9_cut 24 = .ok (.getfield 7, 3) := by decide +kernel
theorem dX9_cut_27 : decode cX9_cut 27 = .ok (.iconst 4, 1) := by decide +kernel
theorem dX9_cut_28 : decode cX9_cut 28 = .ok (.iaload, 1) := by decide +kernel
theorem dX9_cut_29 : decode cX9_cut 29 = .ok (.ireturn, 1) := by decide +kernel
theorem dX9_pass_0 : decode cX9_pass 0 = .ok (.iload_n 1, 1) := by decide +kernel
theorem dX9_pass_1 : decode cX9_pass 1 = .ok (.iconst 1, 1) := by decide +kernel
theorem dX9_pass_2 : decode cX9_pass 2 = .ok (.bipush 50, 2) := by decide +kernel
theorem dX9_pass_4 : decode cX9_pass 4 = .ok (.invokestatic 50, 3) := by decide +kernel
theorem dX9_pass_7 : decode cX9_pass 7 = .ok (.ifCond .ne 6, 3) := by decide +kernel
theorem dX9_pass_10 : decode cX9_pass 10 = .ok (.bipush (-2), 2) := by decide +kernel
theorem dX9_pass_12 : decode cX9_pass 12 = .ok (.ireturn, 1) := by decide +kernel
theorem dX9_pass_13 : decode cX9_pass 13 = .ok (.aload_n 0, 1) := by decide +kernel
theorem dX9_pass_14 : decode cX9_pass 14 = .ok (.getfield 7, 3) := by decide +kernel
theorem dX9_pass_17 : decode cX9_pass 17 = .ok (.sipush 1404, 3) := by decide +kernel
theorem dX9_pass_20 : decode cX9_pass 20 = .ok (.iaload, 1) := by decide +kernel
theorem dX9_pass_21 : decode cX9_pass 21 = .ok (.iload_n 1, 1) := by decide +kernel
theorem dX9_pass_22 : decode cX9_pass 22 = .ok (.iadd, 1) := by decide +kernel
theorem dX9_pass_23 : decode cX9_pass 23 = .ok (.sipush 999, 3) := by decide +kernel
theorem dX9_pass_26 : decode cX9_pass 26 = .ok (.if_icmp .le 6, 3) := by decide +kernel
theorem dX9_pass_29 : decode cX9_pass 29 = .ok (.bipush (-4), 2) := by decide +kernel
theorem dX9_pass_31 : decode cX9_pass 31 = .ok (.ireturn, 1) := by decide +kernel
theorem dX9_pass_32 : decode cX9_pass 32 = .ok (.aload_n 0, 1) := by decide +kernel
theorem dX9_pass_33 : decode cX9_pass 33 = .ok (.invokevirtual 139, 3) := by decide +kernel
theorem dX9_pass_36 : decode cX9_pass 36 = .ok (.aload_n 0, 1) := by decide +kernel
theorem dX9_pass_37 : decode cX9_pass 37 = .ok (.getfield 7, 3) := by decide +kernel
theorem dX9_pass_40 : decode cX9_pass 40 = .ok (.sipush 1405, 3) := by decide +kernel
theorem dX9_pass_43 : decode cX9_pass 43 = .ok (.iaload, 1) := by decide +kernel
theorem dX9_pass_44 : decode cX9_pass 44 = .ok (.istore_n 2, 1) := by decide +kernel
theorem dX9_pass_45 : decode cX9_pass 45 = .ok (.iconst 0, 1) := by decide +kernel
theorem dX9_pass_46 : decode cX9_pass 46 = .ok (.istore_n 3, 1) := by decide +kernel
theorem dX9_pass_47 : decode cX9_pass 47 = .ok (.iload_n 3, 1) := by decide +kernel
theorem dX9_pass_48 : decode cX9_pass 48 = .ok (.iload_n 1, 1) := by decide +kernel
theorem dX9_pass_49 : decode cX9_pass 49 = .ok (.if_icmp .ge 15, 3) := by decide +kernel
theorem dX9_pass_52 : decode cX9_pass 52 = .ok (.aload_n 0, 1) := by decide +kernel
theorem dX9_pass_53 : decode cX9_pass 53 = .ok (.invokevirtual 149, 3) := by decide +kernel
theorem dX9_pass_56 : decode cX9_pass 56 = .ok (.istore 4, 2) := by decide +kernel
theorem dX9_pass_58 : decode cX9_pass 58 = .ok (.iinc 3 1, 3) := by decide +kernel
theorem dX9_pass_61 : decode cX9_pass 61 = .ok (.goto (-14), 3) := by decide +kernel
theorem dX9_pass_64 : decode cX9_pass 64 = .ok (.aload_n 0, 1) := by decide +kernel
theorem dX9_pass_65 : decode cX9_pass 65 = .ok (.getfield 7, 3) := by decide +kernel
theorem dX9_pass_68 : decode cX9_pass 68 = .ok (.sipush 1405, 3) := by decide +kernel
theorem dX9_pass_71 : decode cX9_pass 71 = .ok (.iaload, 1) := by decide +kernel
theorem dX9_pass_72 : decode cX9_pass 72 = .ok (.iload_n 2, 1) := by decide +kernel
theorem dX9_pass_73 : decode cX9_pass 73 = .ok (.isub, 1) := by decide +kernel
theorem dX9_pass_74 : decode cX9_pass 74 = .ok (.ireturn, 1) := by decide +kernel
theorem dX9_cell_0 : decode cX9_cell 0 = .ok (.iload_n 1, 1) := by decide +kernel
theorem dX9_cell_1 : decode cX9_cell 1 = .ok (.iload_n 2, 1) := by decide +kernel
theorem dX9_cell_2 : decode cX9_cell 2 = .ok (.invokestatic 58, 3) := by decide +kernel
theorem dX9_cell_5 : decode cX9_cell 5 = .ok (.ifCond .ne 5, 3) := by decide +kernel
theorem dX9_cell_8 : decode cX9_cell 8 = .ok (.iconst (-1), 1) := by decide +kernel
theorem dX9_cell_9 : decode cX9_cell 9 = .ok (.ireturn, 1) := by decide +kernel
theorem dX9_cell_10 : decode cX9_cell 10 = .ok (.bipush 20, 2) := by decide +kernel
theorem dX9_cell_12 : decode cX9_cell 12 = .ok (.iload_n 2, 1) := by decide +kernel
theorem dX9_cell_13 : decode cX9_cell 13 = .ok (.imul, 1) := by decide +kernel
theorem dX9_cell_14 : decode cX9_cell 14 = .ok (.iload_n 1, 1) := by decide +kernel
theorem dX9_cell_15 : decode cX9_cell 15 = .ok (.iadd, 1) := by decide +kernel
theorem dX9_cell_16 : decode cX9_cell 16 = .ok (.istore 4, 2) := by decide +kernel
theorem dX9_cell_18 : decode cX9_cell 18 = .ok (.iload_n 3, 1) := by decide +kernel
theorem dX9_cell_19 : decode cX9_cell 19 = .ok (.tableswitch 72 0 3 #[29, 36, 48, 60], 29) := by decide +kernel
theorem dX9_cell_48 : decode cX9_cell 48 = .ok (.aload_n 0, 1) := by decide +kernel
theorem dX9_cell_49 : decode cX9_cell 49 = .ok (.iload 4, 2) := by decide +kernel
theorem dX9_cell_51 : decode cX9_cell 51 = .ok (.invokevirtual 142, 3) := by decide +kernel
theorem dX9_cell_54 : decode cX9_cell 54 = .ok (.ireturn, 1) := by decide +kernel
theorem dX9_cell_55 : decode cX9_cell 55 = .ok (.aload_n 0, 1) := by decide +kernel
theorem dX9_cell_56 : decode cX9_cell 56 = .ok (.getfield 7, 3) := by decide +kernel
theorem dX9_cell_59 : decode cX9_cell 59 = .ok (.sipush 155, 3) := by decide +kernel
theorem dX9_cell_62 : decode cX9_cell 62 = .ok (.iload 4, 2) := by decide +kernel
theorem dX9_cell_64 : decode cX9_cell 64 = .ok (.iadd, 1) := by decide +kernel
theorem dX9_cell_65 : decode cX9_cell 65 = .ok (.iaload, 1) := by decide +kernel
theorem dX9_cell_66 : decode cX9_cell 66 = .ok (.ireturn, 1) := by decide +kernel
theorem dX9_cell_67 : decode cX9_cell 67 = .ok (.aload_n 0, 1) := by decide +kernel
theorem dX9_cell_68 : decode cX9_cell 68 = .ok (.getfield 7, 3) := by decide +kernel
theorem dX9_cell_71 : decode cX9_cell 71 = .ok (.sipush 395, 3) := by decide +kernel
theorem dX9_cell_74 : decode cX9_cell 74 = .ok (.iload 4, 2) := by decide +kernel
theorem dX9_cell_76 : decode cX9_cell 76 = .ok (.iadd, 1) := by decide +kernel
theorem dX9_cell_77 : decode cX9_cell 77 = .ok (.iaload, 1) := by decide +kernel
theorem dX9_cell_78 : decode cX9_cell 78 = .ok (.ireturn, 1) := by decide +kernel
theorem dX9_cell_79 : decode cX9_cell 79 = .ok (.aload_n 0, 1) := by decide +kernel
theorem dX9_cell_80 : decode cX9_cell 80 = .ok (.getfield 7, 3) := by decide +kernel
theorem dX9_cell_83 : decode cX9_cell 83 = .ok (.sipush 1115, 3) := by decide +kernel
theorem dX9_cell_86 : decode cX9_cell 86 = .ok (.iload 4, 2) := by decide +kernel
theorem dX9_cell_88 : decode cX9_cell 88 = .ok (.iadd, 1) := by decide +kernel
theorem dX9_cell_89 : decode cX9_cell 89 = .ok (.iaload, 1) := by decide +kernel
theorem dX9_cell_90 : decode cX9_cell 90 = .ok (.ireturn, 1) := by decide +kernel
theorem dX9_cell_91 : decode cX9_cell 91 = .ok (.bipush (-2), 2) := by decide +kernel
theorem dX9_cell_93 : decode cX9_cell 93 = .ok (.ireturn, 1) := by decide +kernel
theorem dX9_course_0 : decode cX9_course 0 = .ok (.iload_n 1, 1) := by decide +kernel
theorem dX9_course_1 : decode cX9_course 1 = .ok (.iconst 0, 1) := by decide +kernel
theorem dX9_course_2 : decode cX9_course 2 = .ok (.aload_n 0, 1) := by decide +kernel
theorem dX9_course_3 : decode cX9_course 3 = .ok (.getfield 7, 3) := by decide +kernel
theorem dX9_course_6 : decode cX9_course 6 = .ok (.iconst 4, 1) := by decide +kernel
theorem dX9_course_7 : decode cX9_course 7 = .ok (.iaload, 1) := by decide +kernel
theorem dX9_course_8 : decode cX9_course 8 = .ok (.iconst 1, 1) := by decide +kernel
theorem dX9_course_9 : decode cX9_course 9 = .ok (.isub, 1) := by decide +kernel
theorem dX9_course_10 : decode cX9_course 10 = .ok (.invokestatic 50, 3) := by decide +kernel
theorem dX9_course_13 : decode cX9_course 13 = .ok (.ifCond .ne 5, 3) := by decide +kernel
theorem dX9_course_16 : decode cX9_course 16 = .ok (.iconst (-1), 1) := by decide +kernel
theorem dX9_course_17 : decode cX9_course 17 = .ok (.ireturn, 1) := by decide +kernel
theorem dX9_course_18 : decode cX9_course 18 = .ok (.iload_n 2, 1) := by decide +kernel
theorem dX9_course_19 : decode cX9_course 19 = .ok (.tableswitch 72 0 2 #[25, 37, 49], 25) := by decide +kernel
theorem dX9_course_44 : decode cX9_course 44 = .ok (.aload_n 0, 1) := by decide +kernel
theorem dX9_course_45 : decode cX9_course 45 = .ok (.getfield 7, 3) := by decide +kernel
theorem dX9_course_48 : decode cX9_course 48 = .ok (.iconst 5, 1) := by decide +kernel
theorem dX9_course_49 : decode cX9_course 49 = .ok (.iload_n 1, 1) := by decide +kernel
theorem dX9_course_50 : decode cX9_course 50 = .ok (.iadd, 1) := by decide +kernel
theorem dX9_course_51 : decode cX9_course 51 = .ok (.iaload, 1) := by decide +kernel
theorem dX9_course_52 : decode cX9_course 52 = .ok (.bipush 20, 2) := by decide +kernel
theorem dX9_course_54 : decode cX9_course 54 = .ok (.irem, 1) := by decide +kernel
theorem dX9_course_55 : decode cX9_course 55 = .ok (.ireturn, 1) := by decide +kernel
theorem dX9_course_56 : decode cX9_course 56 = .ok (.aload_n 0, 1) := by decide +kernel
theorem dX9_course_57 : decode cX9_course 57 = .ok (.getfield 7, 3) := by decide +kernel
theorem dX9_course_60 : decode cX9_course 60 = .ok (.iconst 5, 1) := by decide +kernel
theorem dX9_course_61 : decode cX9_course 61 = .ok (.iload_n 1, 1) := by decide +kernel
theorem dX9_course_62 : decode cX9_course 62 = .ok (.iadd, 1) := by decide +kernel
theorem dX9_course_63 : decode cX9_course 63 = .ok (.iaload, 1) := by decide +kernel
theorem dX9_course_64 : decode cX9_course 64 = .ok (.bipush 20, 2) := by decide +kernel
theorem dX9_course_66 : decode cX9_course 66 = .ok (.idiv, 1) := by decide +kernel
theorem dX9_course_67 : decode cX9_course 67 = .ok (.ireturn, 1) := by decide +kernel
theorem dX9_course_68 : decode cX9_course 68 = .ok (.iload_n 1, 1) := by decide +kernel
theorem dX9_course_69 : decode cX9_course 69 = .ok (.aload_n 0, 1) := by decide +kernel
theorem dX9_course_70 : decode cX9_course 70 = .ok (.getfield 7, 3) := by decide +kernel
theorem dX9_course_73 : decode cX9_course 73 = .ok (.iconst 4, 1) := by decide +kernel
theorem dX9_course_74 : decode cX9_course 74 = .ok (.iaload, 1) := by decide +kernel
theorem dX9_course_75 : decode cX9_course 75 = .ok (.iconst 1, 1) := by decide +kernel
theorem dX9_course_76 : decode cX9_course 76 = .ok (.isub, 1) := by decide +kernel
theorem dX9_course_77 : decode cX9_course 77 = .ok (.if_icmp .ne 8, 3) := by decide +kernel
theorem dX9_course_80 : decode cX9_course 80 = .ok (.bipush (-6), 2) := by decide +kernel
theorem dX9_course_82 : decode cX9_course 82 = .ok (.goto 8, 3) := by decide +kernel
theorem dX9_course_85 : decode cX9_course 85 = .ok (.aload_n 0, 1) := by decide +kernel
theorem dX9_course_86 : decode cX9_course 86 = .ok (.iload_n 1, 1) := by decide +kernel
theorem dX9_course_87 : decode cX9_course 87 = .ok (.invokevirtual 65, 3) := by decide +kernel
theorem dX9_course_90 : decode cX9_course 90 = .ok (.ireturn, 1) := by decide +kernel
theorem dX9_course_91 : decode cX9_course 91 = .ok (.bipush (-2), 2) := by decide +kernel
theorem dX9_course_93 : decode cX9_course 93 = .ok (.ireturn, 1) := by decide +kernel
theorem dX9_bend_0 : decode cX9_bend 0 = .ok (.aload_n 0, 1) := by decide +kernel
theorem dX9_bend_1 : decode cX9_bend 1 = .ok (.invokevirtual 112, 3) := by decide +kernel
theorem dX9_bend_4 : decode cX9_bend 4 = .ok (.iload_n 1, 1) := by decide +kernel
theorem dX9_bend_5 : decode cX9_bend 5 = .ok (.iconst 0, 1) := by decide +kernel
theorem dX9_bend_6 : decode cX9_bend 6 = .ok (.aload_n 0, 1) := by decide +kernel
theorem dX9_bend_7 : decode cX9_bend 7 = .ok (.getfield 62, 3) := by decide +kernel
theorem dX9_bend_10 : decode cX9_bend 10 = .ok (.iconst 1, 1) := by decide +kernel
theorem dX9_bend_11 : decode cX9_bend 11 = .ok (.isub, 1) := by decide +kernel
theorem dX9_bend_12 : decode cX9_bend 12 = .ok (.invokestatic 50, 3) := by decide +kernel
theorem dX9_bend_15 : decode cX9_bend 15 = .ok (.ifCond .ne 5, 3) := by decide +kernel
theorem dX9_bend_18 : decode cX9_bend 18 = .ok (.iconst (-1), 1) := by decide +kernel
theorem dX9_bend_19 : decode cX9_bend 19 = .ok (.ireturn, 1) := by decide +kernel
theorem dX9_bend_20 : decode cX9_bend 20 = .ok (.iload_n 2, 1) := by decide +kernel
theorem dX9_bend_21 : decode cX9_bend 21 = .ok (.tableswitch 106 0 5 #[39, 46, 53, 59, 73, 92], 39) := by decide +kernel
theorem dX9_bend_60 : decode cX9_bend 60 = .ok (.aload_n 0, 1) := by decide +kernel
theorem dX9_bend_61 : decode cX9_bend 61 = .ok (.getfield 29, 3) := by decide +kernel
theorem dX9_bend_64 : decode cX9_bend 64 = .ok (.iload_n 1, 1) := by decide +kernel
theorem dX9_bend_65 : decode cX9_bend 65 = .ok (.iaload, 1) := by decide +kernel
theorem dX9_bend_66 : decode cX9_bend 66 = .ok (.ireturn, 1) := by decide +kernel
theorem dX9_bend_67 : decode cX9_bend 67 = .ok (.aload_n 0, 1) := by decide +kernel
theorem dX9_bend_68 : decode cX9_bend 68 = .ok (.getfield 32, 3) := by decide +kernel
theorem dX9_bend_71 : decode cX9_bend 71 = .ok (.iload_n 1, 1) := by decide +kernel
theorem dX9_bend_72 : decode cX9_bend 72 = .ok (.iaload, 1) := by decide +kernel
theorem dX9_bend_73 : decode cX9_bend 73 = .ok (.ireturn, 1) := by decide +kernel
theorem dX9_bend_74 : decode cX9_bend 74 = .ok (.aload_n 0, 1) := by decide +kernel
theorem dX9_bend_75 : decode cX9_bend 75 = .ok (.iload_n 1, 1) := by decide +kernel
theorem dX9_bend_76 : decode cX9_bend 76 = .ok (.invokevirtual 69, 3) := by decide +kernel
theorem dX9_bend_79 : decode cX9_bend 79 = .ok (.ireturn, 1) := by decide +kernel
theorem dX9_bend_80 : decode cX9_bend 80 = .ok (.aload_n 0, 1) := by decide +kernel
theorem dX9_bend_81 : decode cX9_bend 81 = .ok (.iload_n 1, 1) := by decide +kernel
theorem dX9_bend_82 : decode cX9_bend 82 = .ok (.invokevirtual 79, 3) := by decide +kernel
theorem dX9_bend_85 : decode cX9_bend 85 = .ok (.ifCond .eq 7, 3) := by decide +kernel
theorem dX9_bend_88 : decode cX9_bend 88 = .ok (.iconst 1, 1) := by decide +kernel
theorem dX9_bend_89 : decode cX9_bend 89 = .ok (.goto 4, 3) := by decide +kernel
theorem dX9_bend_92 : decode cX9_bend 92 = .ok (.iconst 0, 1) := by decide +kernel
theorem dX9_bend_93 : decode cX9_bend 93 = .ok (.ireturn, 1) := by decide +kernel
theorem dX9_bend_94 : decode cX9_bend 94 = .ok (.aload_n 0, 1) := by decide +kernel
theorem dX9_bend_95 : decode cX9_bend 95 = .ok (.iload_n 1, 1) := by decide +kernel
theorem dX9_bend_96 : decode cX9_bend 96 = .ok (.invokevirtual 79, 3) := by decide +kernel
theorem dX9_bend_99 : decode cX9_bend 99 = .ok (.ifCond .eq 8, 3) := by decide +kernel
theorem dX9_bend_102 : decode cX9_bend 102 = .ok (.bipush (-6), 2) := by decide +kernel
theorem dX9_bend_104 : decode cX9_bend 104 = .ok (.goto 8, 3) := by decide +kernel
theorem dX9_bend_107 : decode cX9_bend 107 = .ok (.aload_n 0, 1) := by decide +kernel
theorem dX9_bend_108 : decode cX9_bend 108 = .ok (.iload_n 1, 1) := by decide +kernel
theorem dX9_bend_109 : decode cX9_bend 109 = .ok (.invokevirtual 83, 3) := by decide +kernel
theorem dX9_bend_112 : decode cX9_bend 112 = .ok (.ireturn, 1) := by decide +kernel
theorem dX9_bend_113 : decode cX9_bend 113 = .ok (.aload_n 0, 1) := by decide +kernel
theorem dX9_bend_114 : decode cX9_bend 114 = .ok (.iload_n 1, 1) := by decide +kernel
theorem dX9_bend_115 : decode cX9_bend 115 = .ok (.invokevirtual 118, 3) := by decide +kernel
theorem dX9_bend_118 : decode cX9_bend 118 = .ok (.ifCond .eq 7, 3) := by decide +kernel
theorem dX9_bend_121 : decode cX9_bend 121 = .ok (.iconst 1, 1) := by decide +kernel
theorem dX9_bend_122 : decode cX9_bend 122 = .ok (.goto 4, 3) := by decide +kernel
theorem dX9_bend_125 : decode cX9_bend 125 = .ok (.iconst 0, 1) := by decide +kernel
theorem dX9_bend_126 : decode cX9_bend 126 = .ok (.ireturn, 1) := by decide +kernel
theorem dX9_bend_127 : decode cX9_bend 127 = .ok (.bipush (-2), 2) := by decide +kernel
theorem dX9_bend_129 : decode cX9_bend 129 = .ok (.ireturn, 1) := by decide +kernel
theorem dX9_neck_0 : decode cX9_neck 0 = .ok (.iload_n 1, 1) := by decide +kernel
theorem dX9_neck_1 : decode cX9_neck 1 = .ok (.ifCond .lt 12, 3) := by decide +kernel
theorem dX9_neck_4 : decode cX9_neck 4 = .ok (.aload_n 0, 1) := by decide +kernel
theorem dX9_neck_5 : decode cX9_neck 5 = .ok (.iload_n 1, 1) := by decide +kernel
theorem dX9_neck_6 : decode cX9_neck 6 = .ok (.iconst 0, 1) := by decide +kernel
theorem dX9_neck_7 : decode cX9_neck 7 = .ok (.invokevirtual 133, 3) := by decide +kernel
theorem dX9_neck_10 : decode cX9_neck 10 = .ok (.ifCond .ne 5, 3) := by decide +kernel
theorem dX9_neck_13 : decode cX9_neck 13 = .ok (.iconst (-1), 1) := by decide +kernel
theorem dX9_neck_14 : decode cX9_neck 14 = .ok (.ireturn, 1) := by decide +kernel
theorem dX9_neck_15 : decode cX9_neck 15 = .ok (.iload_n 2, 1) := by decide +kernel
theorem dX9_neck_16 : decode cX9_neck 16 = .ok (.ifCond .ne 10, 3) := by decide +kernel
theorem dX9_neck_19 : decode cX9_neck 19 = .ok (.aload_n 0, 1) := by decide +kernel
theorem dX9_neck_20 : decode cX9_neck 20 = .ok (.getfield 97, 3) := by decide +kernel
theorem dX9_neck_23 : decode cX9_neck 23 = .ok (.goto 55, 3) := by decide +kernel
theorem dX9_neck_26 : decode cX9_neck 26 = .ok (.iload_n 2, 1) := by decide +kernel
theorem dX9_neck_27 : decode cX9_neck 27 = .ok (.iconst 1, 1) := by decide +kernel
theorem dX9_neck_28 : decode cX9_neck 28 = .ok (.if_icmp .ne 10, 3) := by decide +kernel
theorem dX9_neck_31 : decode cX9_neck 31 = .ok (.aload_n 0, 1) := by decide +kernel
theorem dX9_neck_32 : decode cX9_neck 32 = .ok (.getfield 106, 3) := by decide +kernel
theorem dX9_neck_35 : decode cX9_neck 35 = .ok (.goto 43, 3) := by decide +kernel
theorem dX9_neck_38 : decode cX9_neck 38 = .ok (.iload_n 2, 1) := by decide +kernel
theorem dX9_neck_39 : decode cX9_neck 39 = .ok (.iconst 2, 1) := by decide +kernel
theorem dX9_neck_40 : decode cX9_neck 40 = .ok (.if_icmp .ne 36, 3) := by decide +kernel
theorem dX9_neck_43 : decode cX9_neck 43 = .ok (.aload_n 0, 1) := by decide +kernel
theorem dX9_neck_44 : decode cX9_neck 44 = .ok (.getfield 7, 3) := by decide +kernel
theorem dX9_neck_47 : decode cX9_neck 47 = .ok (.aload_n 0, 1) := by decide +kernel
theorem dX9_neck_48 : decode cX9_neck 48 = .ok (.getfield 7, 3) := by decide +kernel
theorem dX9_neck_51 : decode cX9_neck 51 = .ok (.iconst 5, 1) := by decide +kernel
theorem dX9_neck_52 : decode cX9_neck 52 = .ok (.aload_n 0, 1) := by decide +kernel
theorem dX9_neck_53 : decode cX9_neck 53 = .ok (.getfield 97, 3) := by decide +kernel
theorem dX9_neck_56 : decode cX9_neck 56 = .ok (.iadd, 1) := by decide +kernel
theorem dX9_neck_57 : decode cX9_neck 57 = .ok (.iaload, 1) := by decide +kernel
theorem dX9_neck_58 : decode cX9_neck 58 = .ok (.aload_n 0, 1) := by decide +kernel
theorem dX9_neck_59 : decode cX9_neck 59 = .ok (.getfield 7, 3) := by decide +kernel
theorem dX9_neck_62 : decode cX9_neck 62 = .ok (.iconst 5, 1) := by decide +kernel
theorem dX9_neck_63 : decode cX9_neck 63 = .ok (.aload_n 0, 1) := by decide +kernel
theorem dX9_neck_64 : decode cX9_neck 64 = .ok (.getfield 106, 3) := by decide +kernel
theorem dX9_neck_67 : decode cX9_neck 67 = .ok (.iadd, 1) := by decide +kernel
theorem dX9_neck_68 : decode cX9_neck 68 = .ok (.iaload, 1) := by decide +kernel
theorem dX9_neck_69 : decode cX9_neck 69 = .ok (.invokestatic 103, 3) := by decide +kernel
theorem dX9_neck_72 : decode cX9_neck 72 = .ok (.iaload, 1) := by decide +kernel
theorem dX9_neck_73 : decode cX9_neck 73 = .ok (.goto 5, 3) := by decide +kernel
theorem dX9_neck_76 : decode cX9_neck 76 = .ok (.bipush (-2), 2) := by decide +kernel
theorem dX9_neck_78 : decode cX9_neck 78 = .ok (.ireturn, 1) := by decide +kernel
theorem dX9_oxbow_0 : decode cX9_oxbow 0 = .ok (.iload_n 1, 1) := by decide +kernel
theorem dX9_oxbow_1 : decode cX9_oxbow 1 = .ok (.iconst 0, 1) := by decide +kernel
theorem dX9_oxbow_2 : decode cX9_oxbow 2 = .ok (.aload_n 0, 1) := by decide +kernel
theorem dX9_oxbow_3 : decode cX9_oxbow 3 = .ok (.getfield 7, 3) := by decide +kernel
theorem dX9_oxbow_6 : decode cX9_oxbow 6 = .ok (.sipush 1355, 3) := by decide +kernel
theorem dX9_oxbow_9 : decode cX9_oxbow 9 = .ok (.iaload, 1) := by decide +kernel
theorem dX9_oxbow_10 : decode cX9_oxbow 10 = .ok (.iconst 1, 1) := by decide +kernel
theorem dX9_oxbow_11 : decode cX9_oxbow 11 = .ok (.isub, 1) := by decide +kernel
theorem dX9_oxbow_12 : decode cX9_oxbow 12 = .ok (.invokestatic 50, 3) := by decide +kernel
theorem dX9_oxbow_15 : decode cX9_oxbow 15 = .ok (.ifCond .ne 5, 3) := by decide +kernel
theorem dX9_oxbow_18 : decode cX9_oxbow 18 = .ok (.iconst (-1), 1) := by decide +kernel
theorem dX9_oxbow_19 : decode cX9_oxbow 19 = .ok (.ireturn, 1) := by decide +kernel
theorem dX9_oxbow_20 : decode cX9_oxbow 20 = .ok (.aload_n 0, 1) := by decide +kernel
theorem dX9_oxbow_21 : decode cX9_oxbow 21 = .ok (.getfield 7, 3) := by decide +kernel
theorem dX9_oxbow_24 : decode cX9_oxbow 24 = .ok (.sipush 1356, 3) := by decide +kernel
theorem dX9_oxbow_27 : decode cX9_oxbow 27 = .ok (.iconst 3, 1) := by decide +kernel
theorem dX9_oxbow_28 : decode cX9_oxbow 28 = .ok (.iload_n 1, 1) := by decide +kernel
theorem dX9_oxbow_29 : decode cX9_oxbow 29 = .ok (.imul, 1) := by decide +kernel
theorem dX9_oxbow_30 : decode cX9_oxbow 30 = .ok (.iadd, 1) := by decide +kernel
theorem dX9_oxbow_31 : decode cX9_oxbow 31 = .ok (.iconst 2, 1) := by decide +kernel
theorem dX9_oxbow_32 : decode cX9_oxbow 32 = .ok (.iadd, 1) := by decide +kernel
theorem dX9_oxbow_33 : decode cX9_oxbow 33 = .ok (.iaload, 1) := by decide +kernel
theorem dX9_oxbow_34 : decode cX9_oxbow 34 = .ok (.istore_n 3, 1) := by decide +kernel
theorem dX9_oxbow_35 : decode cX9_oxbow 35 = .ok (.iload_n 2, 1) := by decide +kernel
theorem dX9_oxbow_36 : decode cX9_oxbow 36 = .ok (.iconst 2, 1) := by decide +kernel
theorem dX9_oxbow_37 : decode cX9_oxbow 37 = .ok (.if_icmp .ne 10, 3) := by decide +kernel
theorem dX9_oxbow_40 : decode cX9_oxbow 40 = .ok (.iload_n 3, 1) := by decide +kernel
theorem dX9_oxbow_41 : decode cX9_oxbow 41 = .ok (.bipush 20, 2) := by decide +kernel
theorem dX9_oxbow_43 : decode cX9_oxbow 43 = .ok (.irem, 1) := by decide +kernel
theorem dX9_oxbow_44 : decode cX9_oxbow 44 = .ok (.goto 43, 3) := by decide +kernel
theorem dX9_oxbow_47 : decode cX9_oxbow 47 = .ok (.iload_n 2, 1) := by decide +kernel
theorem dX9_oxbow_48 : decode cX9_oxbow 48 = .ok (.iconst 3, 1) := by decide +kernel
theorem dX9_oxbow_49 : decode cX9_oxbow 49 = .ok (.if_icmp .ne 10, 3) := by decide +kernel
theorem dX9_oxbow_52 : decode cX9_oxbow 52 = .ok (.iload_n 3, 1) := by decide +kernel
theorem dX9_oxbow_53 : decode cX9_oxbow 53 = .ok (.bipush 20, 2) := by decide +kernel
theorem dX9_oxbow_55 : decode cX9_oxbow 55 = .ok (.idiv, 1) := by decide +kernel
theorem dX9_oxbow_56 : decode cX9_oxbow 56 = .ok (.goto 31, 3) := by decide +kernel
theorem dX9_oxbow_59 : decode cX9_oxbow 59 = .ok (.iload_n 2, 1) := by decide +kernel
theorem dX9_oxbow_60 : decode cX9_oxbow 60 = .ok (.iconst 0, 1) := by decide +kernel
theorem dX9_oxbow_61 : decode cX9_oxbow 61 = .ok (.iconst 1, 1) := by decide +kernel
theorem dX9_oxbow_62 : decode cX9_oxbow 62 = .ok (.invokestatic 50, 3) := by decide +kernel
theorem dX9_oxbow_65 : decode cX9_oxbow 65 = .ok (.ifCond .eq 20, 3) := by decide +kernel
theorem dX9_oxbow_68 : decode cX9_oxbow 68 = .ok (.aload_n 0, 1) := by decide +kernel
theorem dX9_oxbow_69 : decode cX9_oxbow 69 = .ok (.getfield 7, 3) := by decide +kernel
theorem dX9_oxbow_72 : decode cX9_oxbow 72 = .ok (.sipush 1356, 3) := by decide +kernel
theorem dX9_oxbow_75 : decode cX9_oxbow 75 = .ok (.iconst 3, 1) := by decide +kernel
theorem dX9_oxbow_76 : decode cX9_oxbow 76 = .ok (.iload_n 1, 1) := by decide +kernel
theorem dX9_oxbow_77 : decode cX9_oxbow 77 = .ok (.imul, 1) := by decide +kernel
theorem dX9_oxbow_78 : decode cX9_oxbow 78 = .ok (.iadd, 1) := by decide +kernel
theorem dX9_oxbow_79 : decode cX9_oxbow 79 = .ok (.iload_n 2, 1) := by decide +kernel
theorem dX9_oxbow_80 : decode cX9_oxbow 80 = .ok (.iadd, 1) := by decide +kernel
theorem dX9_oxbow_81 : decode cX9_oxbow 81 = .ok (.iaload, 1) := by decide +kernel
theorem dX9_oxbow_82 : decode cX9_oxbow 82 = .ok (.goto 5, 3) := by decide +kernel
theorem dX9_oxbow_85 : decode cX9_oxbow 85 = .ok (.bipush (-2), 2) := by decide +kernel
theorem dX9_oxbow_87 : decode cX9_oxbow 87 = .ok (.ireturn, 1) := by decide +kernel
theorem dX9_firm_0 : decode cX9_firm 0 = .ok (.aload_n 0, 1) := by decide +kernel
theorem dX9_firm_1 : decode cX9_firm 1 = .ok (.invokevirtual 112, 3) := by decide +kernel
theorem dX9_firm_4 : decode cX9_firm 4 = .ok (.iconst 0, 1) := by decide +kernel
theorem dX9_firm_5 : decode cX9_firm 5 = .ok (.istore_n 1, 1) := by decide +kernel
theorem dX9_firm_6 : decode cX9_firm 6 = .ok (.iconst 0, 1) := by decide +kernel
theorem dX9_firm_7 : decode cX9_firm 7 = .ok (.istore_n 2, 1) := by decide +kernel
theorem dX9_firm_8 : decode cX9_firm 8 = .ok (.iload_n 2, 1) := by decide +kernel
theorem dX9_firm_9 : decode cX9_firm 9 = .ok (.aload_n 0, 1) := by decide +kernel
theorem dX9_firm_10 : decode cX9_firm 10 = .ok (.getfield 62, 3) := by decide +kernel
theorem dX9_firm_13 : decode cX9_firm 13 = .ok (.if_icmp .ge 25, 3) := by decide +kernel
theorem dX9_firm_16 : decode cX9_firm 16 = .ok (.iload_n 1, 1) := by decide +kernel
theorem dX9_firm_17 : decode cX9_firm 17 = .ok (.aload_n 0, 1) := by decide +kernel
theorem dX9_firm_18 : decode cX9_firm 18 = .ok (.iload_n 2, 1) := by decide +kernel
theorem dX9_firm_19 : decode cX9_firm 19 = .ok (.invokevirtual 79, 3) := by decide +kernel
theorem dX9_firm_22 : decode cX9_firm 22 = .ok (.ifCond .eq 7, 3) := by decide +kernel
theorem dX9_firm_25 : decode cX9_firm 25 = .ok (.iconst 1, 1) := by decide +kernel
theorem dX9_firm_26 : decode cX9_firm 26 = .ok (.goto 4, 3) := by decide +kernel
theorem dX9_firm_29 : decode cX9_firm 29 = .ok (.iconst 0, 1) := by decide +kernel
theorem dX9_firm_30 : decode cX9_firm 30 = .ok (.iadd, 1) := by decide +kernel
theorem dX9_firm_31 : decode cX9_firm 31 = .ok (.istore_n 1, 1) := by decide +kernel
theorem dX9_firm_32 : decode cX9_firm 32 = .ok (.iinc 2 1, 3) := by decide +kernel
theorem dX9_firm_35 : decode cX9_firm 35 = .ok (.goto (-27), 3) := by decide +kernel
theorem dX9_firm_38 : decode cX9_firm 38 = .ok (.iload_n 1, 1) := by decide +kernel
theorem dX9_firm_39 : decode cX9_firm 39 = .ok (.ireturn, 1) := by decide +kernel
theorem dX9_apart_0 : decode cX9_apart 0 = .ok (.iload_n 0, 1) := by decide +kernel
theorem dX9_apart_1 : decode cX9_apart 1 = .ok (.iload_n 1, 1) := by decide +kernel
theorem dX9_apart_2 : decode cX9_apart 2 = .ok (.if_icmp .le 9, 3) := by decide +kernel
theorem dX9_apart_5 : decode cX9_apart 5 = .ok (.iload_n 0, 1) := by decide +kernel
theorem dX9_apart_6 : decode cX9_apart 6 = .ok (.iload_n 1, 1) := by decide +kernel
theorem dX9_apart_7 : decode cX9_apart 7 = .ok (.isub, 1) := by decide +kernel
theorem dX9_apart_8 : decode cX9_apart 8 = .ok (.goto 6, 3) := by decide +kernel
theorem dX9_apart_11 : decode cX9_apart 11 = .ok (.iload_n 1, 1) := by decide +kernel
theorem dX9_apart_12 : decode cX9_apart 12 = .ok (.iload_n 0, 1) := by decide +kernel
theorem dX9_apart_13 : decode cX9_apart 13 = .ok (.isub, 1) := by decide +kernel
theorem dX9_apart_14 : decode cX9_apart 14 = .ok (.ireturn, 1) := by decide +kernel
theorem dX9_winding_0 : decode cX9_winding 0 = .ok (.aload_n 0, 1) := by decide +kernel
theorem dX9_winding_1 : decode cX9_winding 1 = .ok (.getfield 7, 3) := by decide +kernel
theorem dX9_winding_4 : decode cX9_winding 4 = .ok (.iconst 5, 1) := by decide +kernel
theorem dX9_winding_5 : decode cX9_winding 5 = .ok (.iaload, 1) := by decide +kernel
theorem dX9_winding_6 : decode cX9_winding 6 = .ok (.istore_n 1, 1) := by decide +kernel
theorem dX9_winding_7 : decode cX9_winding 7 = .ok (.aload_n 0, 1) := by decide +kernel
theorem dX9_winding_8 : decode cX9_winding 8 = .ok (.getfield 7, 3) := by decide +kernel
theorem dX9_winding_11 : decode cX9_winding 11 = .ok (.iconst 5, 1) := by decide +kernel
theorem dX9_winding_12 : decode cX9_winding 12 = .ok (.aload_n 0, 1) := by decide +kernel
theorem dX9_winding_13 : decode cX9_winding 13 = .ok (.getfield 7, 3) := by decide +kernel
theorem dX9_winding_16 : decode cX9_winding 16 = .ok (.iconst 4, 1) := by decide +kernel
theorem dX9_winding_17 : decode cX9_winding 17 = .ok (.iaload, 1) := by decide +kernel
theorem dX9_winding_18 : decode cX9_winding 18 = .ok (.iadd, 1) := by decide +kernel
theorem dX9_winding_19 : decode cX9_winding 19 = .ok (.iconst 1, 1) := by decide +kernel
theorem dX9_winding_20 : decode cX9_winding 20 = .ok (.isub, 1) := by decide +kernel
theorem dX9_winding_21 : decode cX9_winding 21 = .ok (.iaload, 1) := by decide +kernel
theorem dX9_winding_22 : decode cX9_winding 22 = .ok (.istore_n 2, 1) := by decide +kernel
theorem dX9_winding_23 : decode cX9_winding 23 = .ok (.sipush 1000, 3) := by decide +kernel
theorem dX9_winding_26 : decode cX9_winding 26 = .ok (.aload_n 0, 1) := by decide +kernel
theorem dX9_winding_27 : decode cX9_winding 27 = .ok (.getfield 7, 3) := by decide +kernel
theorem dX9_winding_30 : decode cX9_winding 30 = .ok (.iconst 4, 1) := by decide +kernel
theorem dX9_winding_31 : decode cX9_winding 31 = .ok (.iaload, 1) := by decide +kernel
theorem dX9_winding_32 : decode cX9_winding 32 = .ok (.iconst 1, 1) := by decide +kernel
theorem dX9_winding_33 : decode cX9_winding 33 = .ok (.isub, 1) := by decide +kernel
theorem dX9_winding_34 : decode cX9_winding 34 = .ok (.imul, 1) := by decide +kernel
theorem dX9_winding_35 : decode cX9_winding 35 = .ok (.iload_n 1, 1) := by decide +kernel
theorem dX9_winding_36 : decode cX9_winding 36 = .ok (.bipush 20, 2) := by decide +kernel
theorem dX9_winding_38 : decode cX9_winding 38 = .ok (.irem, 1) := by decide +kernel
theorem dX9_winding_39 : decode cX9_winding 39 = .ok (.iload_n 2, 1) := by decide +kernel
theorem dX9_winding_40 : decode cX9_winding 40 = .ok (.bipush 20, 2) := by decide +kernel
theorem dX9_winding_42 : decode cX9_winding 42 = .ok (.irem, 1) := by decide +kernel
theorem dX9_winding_43 : decode cX9_winding 43 = .ok (.invokestatic 152, 3) := by decide +kernel
theorem dX9_winding_46 : decode cX9_winding 46 = .ok (.iload_n 1, 1) := by decide +kernel
theorem dX9_winding_47 : decode cX9_winding 47 = .ok (.bipush 20, 2) := by decide +kernel
theorem dX9_winding_49 : decode cX9_winding 49 = .ok (.idiv, 1) := by decide +kernel
theorem dX9_winding_50 : decode cX9_winding 50 = .ok (.iload_n 2, 1) := by decide +kernel
theorem dX9_winding_51 : decode cX9_winding 51 = .ok (.bipush 20, 2) := by decide +kernel
theorem dX9_winding_53 : decode cX9_winding 53 = .ok (.idiv, 1) := by decide +kernel
theorem dX9_winding_54 : decode cX9_winding 54 = .ok (.invokestatic 152, 3) := by decide +kernel
theorem dX9_winding_57 : decode cX9_winding 57 = .ok (.iadd, 1) := by decide +kernel
theorem dX9_winding_58 : decode cX9_winding 58 = .ok (.idiv, 1) := by decide +kernel
theorem dX9_winding_59 : decode cX9_winding 59 = .ok (.ireturn, 1) := by decide +kernel
theorem dX9_allWear_0 : decode cX9_allWear 0 = .ok (.iconst 0, 1) := by decide +kernel
theorem dX9_allWear_1 : decode cX9_allWear 1 = .ok (.istore_n 1, 1) := by decide +kernel
theorem dX9_allWear_2 : decode cX9_allWear 2 = .ok (.iconst 0, 1) := by decide +kernel
theorem dX9_allWear_3 : decode cX9_allWear 3 = .ok (.istore_n 2, 1) := by decide +kernel
theorem dX9_allWear_4 : decode cX9_allWear 4 = .ok (.iload_n 2, 1) := by decide +kernel
theorem dX9_allWear_5 : decode cX9_allWear 5 = .ok (.sipush 240, 3) := by decide +kernel
theorem dX9_allWear_8 : decode cX9_allWear 8 = .ok (.if_icmp .ge 22, 3) := by decide +kernel
theorem dX9_allWear_11 : decode cX9_allWear 11 = .ok (.iload_n 1, 1) := by decide +kernel
theorem dX9_allWear_12 : decode cX9_allWear 12 = .ok (.aload_n 0, 1) := by decide +kernel
theorem dX9_allWear_13 : decode cX9_allWear 13 = .ok (.getfield 7, 3) := by decide +kernel
theorem dX9_allWear_16 : decode cX9_allWear 16 = .ok (.sipush 155, 3) := by decide +kernel
theorem dX9_allWear_19 : decode cX9_allWear 19 = .ok (.iload_n 2, 1) := by decide +kernel
theorem dX9_allWear_20 : decode cX9_allWear 20 = .ok (.iadd, 1) := by decide +kernel
theorem dX9_allWear_21 : decode cX9_allWear 21 = .ok (.iaload, 1) := by decide +kernel
theorem dX9_allWear_22 : decode cX9_allWear 22 = .ok (.iadd, 1) := by decide +kernel
theorem dX9_allWear_23 : decode cX9_allWear 23 = .ok (.istore_n 1, 1) := by decide +kernel
theorem dX9_allWear_24 : decode cX9_allWear 24 = .ok (.iinc 2 1, 3) := by decide +kernel
theorem dX9_allWear_27 : decode cX9_allWear 27 = .ok (.goto (-23), 3) := by decide +kernel
theorem dX9_allWear_30 : decode cX9_allWear 30 = .ok (.iload_n 1, 1) := by decide +kernel
theorem dX9_allWear_31 : decode cX9_allWear 31 = .ok (.ireturn, 1) := by decide +kernel
theorem dX9_allNecks_0 : decode cX9_allNecks 0 = .ok (.aload_n 0, 1) := by decide +kernel
theorem dX9_allNecks_1 : decode cX9_allNecks 1 = .ok (.iconst 0, 1) := by decide +kernel
theorem dX9_allNecks_2 : decode cX9_allNecks 2 = .ok (.iconst 0, 1) := by decide +kernel
theorem dX9_allNecks_3 : decode cX9_allNecks 3 = .ok (.invokevirtual 133, 3) := by decide +kernel
theorem dX9_allNecks_6 : decode cX9_allNecks 6 = .ok (.istore_n 1, 1) := by decide +kernel
theorem dX9_allNecks_7 : decode cX9_allNecks 7 = .ok (.aload_n 0, 1) := by decide +kernel
theorem dX9_allNecks_8 : decode cX9_allNecks 8 = .ok (.getfield 109, 3) := by decide +kernel
theorem dX9_allNecks_11 : decode cX9_allNecks 11 = .ok (.ireturn, 1) := by decide +kernel
theorem dX9_count_0 : decode cX9_count 0 = .ok (.iload_n 1, 1) := by decide +kernel
theorem dX9_count_1 : decode cX9_count 1 = .ok (.tableswitch 183 0 17 #[87, 94, 103, 108, 113, 122, 131, 140, 145, 154, 163, 168, 183, 183, 183, 183, 173, 178], 87) := by decide +kernel
theorem dX9_count_88 : decode cX9_count 88 = .ok (.aload_n 0, 1) := by decide +kernel
theorem dX9_count_89 : decode cX9_count 89 = .ok (.getfield 7, 3) := by decide +kernel
theorem dX9_count_92 : decode cX9_count 92 = .ok (.iconst 4, 1) := by decide +kernel
theorem dX9_count_93 : decode cX9_count 93 = .ok (.iaload, 1) := by decide +kernel
theorem dX9_count_94 : decode cX9_count 94 = .ok (.ireturn, 1) := by decide +kernel
theorem dX9_count_95 : decode cX9_count 95 = .ok (.aload_n 0, 1) := by decide +kernel
theorem dX9_count_96 : decode cX9_count 96 = .ok (.invokevirtual 112, 3) := by decide +kernel
theorem dX9_count_99 : decode cX9_count 99 = .ok (.aload_n 0, 1) := by decide +kernel
theorem dX9_count_100 : decode cX9_count 100 = .ok (.getfield 62, 3) := by decide +kernel
theorem dX9_count_103 : decode cX9_count 103 = .ok (.ireturn, 1) := by decide +kernel
theorem dX9_count_104 : decode cX9_count 104 = .ok (.aload_n 0, 1) := by decide +kernel
theorem dX9_count_105 : decode cX9_count 105 = .ok (.invokevirtual 155, 3) := by decide +kernel
theorem dX9_count_108 : decode cX9_count 108 = .ok (.ireturn, 1) := by decide +kernel
theorem dX9_count_109 : decode cX9_count 109 = .ok (.aload_n 0, 1) := by decide +kernel
theorem dX9_count_110 : decode cX9_count 110 = .ok (.invokevirtual 158, 3) := by decide +kernel
theorem dX9_count_113 : decode cX9_count 113 = .ok (.ireturn, 1) := by decide +kernel
theorem dX9_count_114 : decode cX9_count 114 = .ok (.aload_n 0, 1) := by decide +kernel
theorem dX9_count_115 : decode cX9_count 115 = .ok (.getfield 7, 3) := by decide +kernel
theorem dX9_count_118 : decode cX9_count 118 = .ok (.sipush 1355, 3) := by decide +kernel
theorem dX9_count_121 : decode cX9_count 121 = .ok (.iaload, 1) := by decide +kernel
theorem dX9_count_122 : decode cX9_count 122 = .ok (.ireturn, 1) := by decide +kernel
theorem dX9_count_123 : decode cX9_count 123 = .ok (.aload_n 0, 1) := by decide +kernel
theorem dX9_count_124 : decode cX9_count 124 = .ok (.getfield 7, 3) := by decide +kernel
theorem dX9_count_127 : decode cX9_count 127 = .ok (.sipush 1404, 3) := by decide +kernel
theorem dX9_count_130 : decode cX9_count 130 = .ok (.iaload, 1) := by decide +kernel
theorem dX9_count_131 : decode cX9_count 131 = .ok (.ireturn, 1) := by decide +kernel
theorem dX9_count_132 : decode cX9_count 132 = .ok (.aload_n 0, 1) := by decide +kernel
theorem dX9_count_133 : decode cX9_count 133 = .ok (.getfield 7, 3) := by decide +kernel
theorem dX9_count_136 : decode cX9_count 136 = .ok (.sipush 1395, 3) := by decide +kernel
theorem dX9_count_139 : decode cX9_count 139 = .ok (.iaload, 1) := by decide +kernel
theorem dX9_count_140 : decode cX9_count 140 = .ok (.ireturn, 1) := by decide +kernel
theorem dX9_count_141 : decode cX9_count 141 = .ok (.aload_n 0, 1) := by decide +kernel
theorem dX9_count_142 : decode cX9_count 142 = .ok (.invokevirtual 145, 3) := by decide +kernel
theorem dX9_count_145 : decode cX9_count 145 = .ok (.ireturn, 1) := by decide +kernel
theorem dX9_count_146 : decode cX9_count 146 = .ok (.aload_n 0, 1) := by decide +kernel
theorem dX9_count_147 : decode cX9_count 147 = .ok (.getfield 7, 3) := by decide +kernel
theorem dX9_count_150 : decode cX9_count 150 = .ok (.sipush 1405, 3) := by decide +kernel
theorem dX9_count_153 : decode cX9_count 153 = .ok (.iaload, 1) := by decide +kernel
theorem dX9_count_154 : decode cX9_count 154 = .ok (.ireturn, 1) := by decide +kernel
theorem dX9_count_155 : decode cX9_count 155 = .ok (.aload_n 0, 1) := by decide +kernel
theorem dX9_count_156 : decode cX9_count 156 = .ok (.getfield 7, 3) := by decide +kernel
theorem dX9_count_159 : decode cX9_count 159 = .ok (.sipush 1406, 3) := by decide +kernel
theorem dX9_count_162 : decode cX9_count 162 = .ok (.iaload, 1) := by decide +kernel
theorem dX9_count_163 : decode cX9_count 163 = .ok (.ireturn, 1) := by decide +kernel
theorem dX9_count_164 : decode cX9_count 164 = .ok (.aload_n 0, 1) := by decide +kernel
theorem dX9_count_165 : decode cX9_count 165 = .ok (.invokevirtual 161, 3) := by decide +kernel
theorem dX9_count_168 : decode cX9_count 168 = .ok (.ireturn, 1) := by decide +kernel
theorem dX9_count_169 : decode cX9_count 169 = .ok (.aload_n 0, 1) := by decide +kernel
theorem dX9_count_170 : decode cX9_count 170 = .ok (.invokevirtual 164, 3) := by decide +kernel
theorem dX9_count_173 : decode cX9_count 173 = .ok (.ireturn, 1) := by decide +kernel
theorem dX9_count_174 : decode cX9_count 174 = .ok (.aload_n 0, 1) := by decide +kernel
theorem dX9_count_175 : decode cX9_count 175 = .ok (.getfield 167, 3) := by decide +kernel
theorem dX9_count_178 : decode cX9_count 178 = .ok (.ireturn, 1) := by decide +kernel
theorem dX9_count_179 : decode cX9_count 179 = .ok (.aload_n 0, 1) := by decide +kernel
theorem dX9_count_180 : decode cX9_count 180 = .ok (.getfield 54, 3) := by decide +kernel
theorem dX9_count_183 : decode cX9_count 183 = .ok (.ireturn, 1) := by decide +kernel
theorem dX9_count_184 : decode cX9_count 184 = .ok (.iload_n 1, 1) := by decide +kernel
theorem dX9_count_185 : decode cX9_count 185 = .ok (.bipush 12, 2) := by decide +kernel
theorem dX9_count_187 : decode cX9_count 187 = .ok (.bipush 15, 2) := by decide +kernel
theorem dX9_count_189 : decode cX9_count 189 = .ok (.invokestatic 50, 3) := by decide +kernel
theorem dX9_count_192 : decode cX9_count 192 = .ok (.ifCond .eq 17, 3) := by decide +kernel
theorem dX9_count_195 : decode cX9_count 195 = .ok (.aload_n 0, 1) := by decide +kernel
theorem dX9_count_196 : decode cX9_count 196 = .ok (.getfield 7, 3) := by decide +kernel
theorem dX9_count_199 : decode cX9_count 199 = .ok (.iconst 0, 1) := by decide +kernel
theorem dX9_count_200 : decode cX9_count 200 = .ok (.iload_n 1, 1) := by decide +kernel
theorem dX9_count_201 : decode cX9_count 201 = .ok (.iadd, 1) := by decide +kernel
theorem dX9_count_202 : decode cX9_count 202 = .ok (.bipush 12, 2) := by decide +kernel
theorem dX9_count_204 : decode cX9_count 204 = .ok (.isub, 1) := by decide +kernel
theorem dX9_count_205 : decode cX9_count 205 = .ok (.iaload, 1) := by decide +kernel
theorem dX9_count_206 : decode cX9_count 206 = .ok (.goto 5, 3) := by decide +kernel
theorem dX9_count_209 : decode cX9_count 209 = .ok (.bipush (-2), 2) := by decide +kernel
theorem dX9_count_211 : decode cX9_count 211 = .ok (.ireturn, 1) := by decide +kernel
theorem dX9_isFlood_0 : decode cX9_isFlood 0 = .ok (.iload_n 1, 1) := by decide +kernel
theorem dX9_isFlood_1 : decode cX9_isFlood 1 = .ok (.iconst 0, 1) := by decide +kernel
theorem dX9_isFlood_2 : decode cX9_isFlood 2 = .ok (.sipush 999, 3) := by decide +kernel
theorem dX9_isFlood_5 : decode cX9_isFlood 5 = .ok (.invokestatic 50, 3) := by decide +kernel
theorem dX9_isFlood_8 : decode cX9_isFlood 8 = .ok (.ifCond .ne 8, 3) := by decide +kernel
theorem dX9_isFlood_11 : decode cX9_isFlood 11 = .ok (.bipush (-2), 2) := by decide +kernel
theorem dX9_isFlood_13 : decode cX9_isFlood 13 = .ok (.goto 16, 3) := by decide +kernel
theorem dX9_isFlood_16 : decode cX9_isFlood 16 = .ok (.aload_n 0, 1) := by decide +kernel
theorem dX9_isFlood_17 : decode cX9_isFlood 17 = .ok (.iload_n 1, 1) := by decide +kernel
theorem dX9_isFlood_18 : decode cX9_isFlood 18 = .ok (.invokevirtual 115, 3) := by decide +kernel
theorem dX9_isFlood_21 : decode cX9_isFlood 21 = .ok (.ifCond .eq 7, 3) := by decide +kernel
theorem dX9_isFlood_24 : decode cX9_isFlood 24 = .ok (.iconst 1, 1) := by decide +kernel
theorem dX9_isFlood_25 : decode cX9_isFlood 25 = .ok (.goto 4, 3) := by decide +kernel
theorem dX9_isFlood_28 : decode cX9_isFlood 28 = .ok (.iconst 0, 1) := by decide +kernel
theorem dX9_isFlood_29 : decode cX9_isFlood 29 = .ok (.ireturn, 1) := by decide +kernel
theorem dX9_ifPassed_0 : decode cX9_ifPassed 0 = .ok (.iload_n 1, 1) := by decide +kernel
theorem dX9_ifPassed_1 : decode cX9_ifPassed 1 = .ok (.iconst 1, 1) := by decide +kernel
theorem dX9_ifPassed_2 : decode cX9_ifPassed 2 = .ok (.bipush 50, 2) := by decide +kernel
theorem dX9_ifPassed_4 : decode cX9_ifPassed 4 = .ok (.invokestatic 50, 3) := by decide +kernel
theorem dX9_ifPassed_7 : decode cX9_ifPassed 7 = .ok (.ifCond .eq 12, 3) := by decide +kernel
theorem dX9_ifPassed_10 : decode cX9_ifPassed 10 = .ok (.iload_n 2, 1) := by decide +kernel
theorem dX9_ifPassed_11 : decode cX9_ifPassed 11 = .ok (.iconst 0, 1) := by decide +kernel
theorem dX9_ifPassed_12 : decode cX9_ifPassed 12 = .ok (.iconst 3, 1) := by decide +kernel
theorem dX9_ifPassed_13 : decode cX9_ifPassed 13 = .ok (.invokestatic 50, 3) := by decide +kernel
theorem dX9_ifPassed_16 : decode cX9_ifPassed 16 = .ok (.ifCond .ne 6, 3) := by decide +kernel
theorem dX9_ifPassed_19 : decode cX9_ifPassed 19 = .ok (.bipush (-2), 2) := by decide +kernel
theorem dX9_ifPassed_21 : decode cX9_ifPassed 21 = .ok (.ireturn, 1) := by decide +kernel
theorem dX9_ifPassed_22 : decode cX9_ifPassed 22 = .ok (.aload_n 0, 1) := by decide +kernel
theorem dX9_ifPassed_23 : decode cX9_ifPassed 23 = .ok (.invokevirtual 170, 3) := by decide +kernel
theorem dX9_ifPassed_26 : decode cX9_ifPassed 26 = .ok (.iconst 0, 1) := by decide +kernel
theorem dX9_ifPassed_27 : decode cX9_ifPassed 27 = .ok (.istore_n 3, 1) := by decide +kernel
theorem dX9_ifPassed_28 : decode cX9_ifPassed 28 = .ok (.iload_n 3, 1) := by decide +kernel
theorem dX9_ifPassed_29 : decode cX9_ifPassed 29 = .ok (.iload_n 1, 1) := by decide +kernel
theorem dX9_ifPassed_30 : decode cX9_ifPassed 30 = .ok (.if_icmp .ge 15, 3) := by decide +kernel
theorem dX9_ifPassed_33 : decode cX9_ifPassed 33 = .ok (.aload_n 0, 1) := by decide +kernel
theorem dX9_ifPassed_34 : decode cX9_ifPassed 34 = .ok (.invokevirtual 149, 3) := by decide +kernel
theorem dX9_ifPassed_37 : decode cX9_ifPassed 37 = .ok (.istore 4, 2) := by decide +kernel
theorem dX9_ifPassed_39 : decode cX9_ifPassed 39 = .ok (.iinc 3 1, 3) := by decide +kernel
theorem dX9_ifPassed_42 : decode cX9_ifPassed 42 = .ok (.goto (-14), 3) := by decide +kernel
theorem dX9_ifPassed_45 : decode cX9_ifPassed 45 = .ok (.iload_n 2, 1) := by decide +kernel
theorem dX9_ifPassed_46 : decode cX9_ifPassed 46 = .ok (.ifCond .ne 23, 3) := by decide +kernel
theorem dX9_ifPassed_49 : decode cX9_ifPassed 49 = .ok (.aload_n 0, 1) := by decide +kernel
theorem dX9_ifPassed_50 : decode cX9_ifPassed 50 = .ok (.getfield 7, 3) := by decide +kernel
theorem dX9_ifPassed_53 : decode cX9_ifPassed 53 = .ok (.sipush 1405, 3) := by decide +kernel
theorem dX9_ifPassed_56 : decode cX9_ifPassed 56 = .ok (.iaload, 1) := by decide +kernel
theorem dX9_ifPassed_57 : decode cX9_ifPassed 57 = .ok (.aload_n 0, 1) := by decide +kernel
theorem dX9_ifPassed_58 : decode cX9_ifPassed 58 = .ok (.getfield 13, 3) := by decide +kernel
theorem dX9_ifPassed_61 : decode cX9_ifPassed 61 = .ok (.sipush 1405, 3) := by decide +kernel
theorem dX9_ifPassed_64 : decode cX9_ifPassed 64 = .ok (.iaload, 1) := by decide +kernel
theorem dX9_ifPassed_65 : decode cX9_ifPassed 65 = .ok (.isub, 1) := by decide +kernel
theorem dX9_ifPassed_66 : decode cX9_ifPassed 66 = .ok (.goto 50, 3) := by decide +kernel
theorem dX9_ifPassed_69 : decode cX9_ifPassed 69 = .ok (.iload_n 2, 1) := by decide +kernel
theorem dX9_ifPassed_70 : decode cX9_ifPassed 70 = .ok (.iconst 1, 1) := by decide +kernel
theorem dX9_ifPassed_71 : decode cX9_ifPassed 71 = .ok (.if_icmp .ne 23, 3) := by decide +kernel
theorem dX9_ifPassed_74 : decode cX9_ifPassed 74 = .ok (.aload_n 0, 1) := by decide +kernel
theorem dX9_ifPassed_75 : decode cX9_ifPassed 75 = .ok (.getfield 7, 3) := by decide +kernel
theorem dX9_ifPassed_78 : decode cX9_ifPassed 78 = .ok (.sipush 1406, 3) := by decide +kernel
theorem dX9_ifPassed_81 : decode cX9_ifPassed 81 = .ok (.iaload, 1) := by decide +kernel
theorem dX9_ifPassed_82 : decode cX9_ifPassed 82 = .ok (.aload_n 0, 1) := by decide +kernel
theorem dX9_ifPassed_83 : decode cX9_ifPassed 83 = .ok (.getfield 13, 3) := by decide +kernel
theorem dX9_ifPassed_86 : decode cX9_ifPassed 86 = .ok (.sipush 1406, 3) := by decide +kernel
theorem dX9_ifPassed_89 : decode cX9_ifPassed 89 = .ok (.iaload, 1) := by decide +kernel
theorem dX9_ifPassed_90 : decode cX9_ifPassed 90 = .ok (.isub, 1) := by decide +kernel
theorem dX9_ifPassed_91 : decode cX9_ifPassed 91 = .ok (.goto 25, 3) := by decide +kernel
theorem dX9_ifPassed_94 : decode cX9_ifPassed 94 = .ok (.iload_n 2, 1) := by decide +kernel
theorem dX9_ifPassed_95 : decode cX9_ifPassed 95 = .ok (.iconst 2, 1) := by decide +kernel
theorem dX9_ifPassed_96 : decode cX9_ifPassed 96 = .ok (.if_icmp .ne 12, 3) := by decide +kernel
theorem dX9_ifPassed_99 : decode cX9_ifPassed 99 = .ok (.aload_n 0, 1) := by decide +kernel
theorem dX9_ifPassed_100 : decode cX9_ifPassed 100 = .ok (.getfield 7, 3) := by decide +kernel
theorem dX9_ifPassed_103 : decode cX9_ifPassed 103 = .ok (.iconst 4, 1) := by decide +kernel
theorem dX9_ifPassed_104 : decode cX9_ifPassed 104 = .ok (.iaload, 1) := by decide +kernel
theorem dX9_ifPassed_105 : decode cX9_ifPassed 105 = .ok (.goto 11, 3) := by decide +kernel
theorem dX9_ifPassed_108 : decode cX9_ifPassed 108 = .ok (.aload_n 0, 1) := by decide +kernel
theorem dX9_ifPassed_109 : decode cX9_ifPassed 109 = .ok (.getfield 7, 3) := by decide +kernel
theorem dX9_ifPassed_112 : decode cX9_ifPassed 112 = .ok (.sipush 1355, 3) := by decide +kernel
theorem dX9_ifPassed_115 : decode cX9_ifPassed 115 = .ok (.iaload, 1) := by decide +kernel
theorem dX9_ifPassed_116 : decode cX9_ifPassed 116 = .ok (.istore_n 3, 1) := by decide +kernel
theorem dX9_ifPassed_117 : decode cX9_ifPassed 117 = .ok (.aload_n 0, 1) := by decide +kernel
theorem dX9_ifPassed_118 : decode cX9_ifPassed 118 = .ok (.invokevirtual 173, 3) := by decide +kernel
theorem dX9_ifPassed_121 : decode cX9_ifPassed 121 = .ok (.iload_n 3, 1) := by decide +kernel
theorem dX9_ifPassed_122 : decode cX9_ifPassed 122 = .ok (.ireturn, 1) := by decide +kernel
theorem dX9_nextCut_0 : decode cX9_nextCut 0 = .ok (.iload_n 1, 1) := by decide +kernel
theorem dX9_nextCut_1 : decode cX9_nextCut 1 = .ok (.iconst 0, 1) := by decide +kernel
theorem dX9_nextCut_2 : decode cX9_nextCut 2 = .ok (.iconst 1, 1) := by decide +kernel
theorem dX9_nextCut_3 : decode cX9_nextCut 3 = .ok (.invokestatic 50, 3) := by decide +kernel
theorem dX9_nextCut_6 : decode cX9_nextCut 6 = .ok (.ifCond .ne 6, 3) := by decide +kernel
theorem dX9_nextCut_9 : decode cX9_nextCut 9 = .ok (.bipush (-2), 2) := by decide +kernel
theorem dX9_nextCut_11 : decode cX9_nextCut 11 = .ok (.ireturn, 1) := by decide +kernel
theorem dX9_nextCut_12 : decode cX9_nextCut 12 = .ok (.aload_n 0, 1) := by decide +kernel
theorem dX9_nextCut_13 : decode cX9_nextCut 13 = .ok (.invokevirtual 170, 3) := by decide +kernel
theorem dX9_nextCut_16 : decode cX9_nextCut 16 = .ok (.bipush (-6), 2) := by decide +kernel
theorem dX9_nextCut_18 : decode cX9_nextCut 18 = .ok (.istore_n 2, 1) := by decide +kernel
theorem dX9_nextCut_19 : decode cX9_nextCut 19 = .ok (.iconst 0, 1) := by decide +kernel
theorem dX9_nextCut_20 : decode cX9_nextCut 20 = .ok (.istore_n 3, 1) := by decide +kernel
theorem dX9_nextCut_21 : decode cX9_nextCut 21 = .ok (.iload_n 3, 1) := by decide +kernel
theorem dX9_nextCut_22 : decode cX9_nextCut 22 = .ok (.bipush 60, 2) := by decide +kernel
theorem dX9_nextCut_24 : decode cX9_nextCut 24 = .ok (.if_icmp .ge 42, 3) := by decide +kernel
theorem dX9_nextCut_27 : decode cX9_nextCut 27 = .ok (.iload_n 2, 1) := by decide +kernel
theorem dX9_nextCut_28 : decode cX9_nextCut 28 = .ok (.bipush (-6), 2) := by decide +kernel
theorem dX9_nextCut_30 : decode cX9_nextCut 30 = .ok (.if_icmp .ne 36, 3) := by decide +kernel
theorem dX9_nextCut_33 : decode cX9_nextCut 33 = .ok (.aload_n 0, 1) := by decide +kernel
theorem dX9_nextCut_34 : decode cX9_nextCut 34 = .ok (.invokevirtual 149, 3) := by decide +kernel
theorem dX9_nextCut_37 : decode cX9_nextCut 37 = .ok (.istore 4, 2) := by decide +kernel
theorem dX9_nextCut_39 : decode cX9_nextCut 39 = .ok (.iload 4, 2) := by decide +kernel
theorem dX9_nextCut_41 : decode cX9_nextCut 41 = .ok (.ifCond .ne 8, 3) := by decide +kernel
theorem dX9_nextCut_44 : decode cX9_nextCut 44 = .ok (.bipush (-6), 2) := by decide +kernel
theorem dX9_nextCut_46 : decode cX9_nextCut 46 = .ok (.goto 13, 3) := by decide +kernel
theorem dX9_nextCut_49 : decode cX9_nextCut 49 = .ok (.iload_n 1, 1) := by decide +kernel
theorem dX9_nextCut_50 : decode cX9_nextCut 50 = .ok (.ifCond .ne 7, 3) := by decide +kernel
theorem dX9_nextCut_53 : decode cX9_nextCut 53 = .ok (.iload_n 3, 1) := by decide +kernel
theorem dX9_nextCut_54 : decode cX9_nextCut 54 = .ok (.goto 5, 3) := by decide +kernel
theorem dX9_nextCut_57 : decode cX9_nextCut 57 = .ok (.iload 4, 2) := by decide +kernel
theorem dX9_nextCut_59 : decode cX9_nextCut 59 = .ok (.istore_n 2, 1) := by decide +kernel
theorem dX9_nextCut_60 : decode cX9_nextCut 60 = .ok (.iinc 3 1, 3) := by decide +kernel
theorem dX9_nextCut_63 : decode cX9_nextCut 63 = .ok (.goto (-42), 3) := by decide +kernel
theorem dX9_nextCut_66 : decode cX9_nextCut 66 = .ok (.aload_n 0, 1) := by decide +kernel
theorem dX9_nextCut_67 : decode cX9_nextCut 67 = .ok (.invokevirtual 173, 3) := by decide +kernel
theorem dX9_nextCut_70 : decode cX9_nextCut 70 = .ok (.iload_n 2, 1) := by decide +kernel
theorem dX9_nextCut_71 : decode cX9_nextCut 71 = .ok (.ireturn, 1) := by decide +kernel
theorem dX9_taken_0 : decode cX9_taken 0 = .ok (.iload_n 1, 1) := by decide +kernel
theorem dX9_taken_1 : decode cX9_taken 1 = .ok (.iload_n 2, 1) := by decide +kernel
theorem dX9_taken_2 : decode cX9_taken 2 = .ok (.invokestatic 58, 3) := by decide +kernel
theorem dX9_taken_5 : decode cX9_taken 5 = .ok (.ifCond .ne 5, 3) := by decide +kernel
theorem dX9_taken_8 : decode cX9_taken 8 = .ok (.iconst (-1), 1) := by decide +kernel
theorem dX9_taken_9 : decode cX9_taken 9 = .ok (.ireturn, 1) := by decide +kernel
theorem dX9_taken_10 : decode cX9_taken 10 = .ok (.bipush 20, 2) := by decide +kernel
theorem dX9_taken_12 : decode cX9_taken 12 = .ok (.iload_n 2, 1) := by decide +kernel
theorem dX9_taken_13 : decode cX9_taken 13 = .ok (.imul, 1) := by decide +kernel
theorem dX9_taken_14 : decode cX9_taken 14 = .ok (.iload_n 1, 1) := by decide +kernel
theorem dX9_taken_15 : decode cX9_taken 15 = .ok (.iadd, 1) := by decide +kernel
theorem dX9_taken_16 : decode cX9_taken 16 = .ok (.istore_n 3, 1) := by decide +kernel
theorem dX9_taken_17 : decode cX9_taken 17 = .ok (.aload_n 0, 1) := by decide +kernel
theorem dX9_taken_18 : decode cX9_taken 18 = .ok (.iload_n 3, 1) := by decide +kernel
theorem dX9_taken_19 : decode cX9_taken 19 = .ok (.invokevirtual 142, 3) := by decide +kernel
theorem dX9_taken_22 : decode cX9_taken 22 = .ok (.bipush (-6), 2) := by decide +kernel
theorem dX9_taken_24 : decode cX9_taken 24 = .ok (.if_icmp .eq 6, 3) := by decide +kernel
theorem dX9_taken_27 : decode cX9_taken 27 = .ok (.bipush (-6), 2) := by decide +kernel
theorem dX9_taken_29 : decode cX9_taken 29 = .ok (.ireturn, 1) := by decide +kernel
theorem dX9_taken_30 : decode cX9_taken 30 = .ok (.aload_n 0, 1) := by decide +kernel
theorem dX9_taken_31 : decode cX9_taken 31 = .ok (.invokevirtual 170, 3) := by decide +kernel
theorem dX9_taken_34 : decode cX9_taken 34 = .ok (.aload_n 0, 1) := by decide +kernel
theorem dX9_taken_35 : decode cX9_taken 35 = .ok (.iload_n 3, 1) := by decide +kernel
theorem dX9_taken_36 : decode cX9_taken 36 = .ok (.putfield 90, 3) := by decide +kernel
theorem dX9_taken_39 : decode cX9_taken 39 = .ok (.aload_n 0, 1) := by decide +kernel
theorem dX9_taken_40 : decode cX9_taken 40 = .ok (.iconst 0, 1) := by decide +kernel
theorem dX9_taken_41 : decode cX9_taken 41 = .ok (.putfield 86, 3) := by decide +kernel
theorem dX9_taken_44 : decode cX9_taken 44 = .ok (.bipush (-6), 2) := by decide +kernel
theorem dX9_taken_46 : decode cX9_taken 46 = .ok (.istore 4, 2) := by decide +kernel
theorem dX9_taken_48 : decode cX9_taken 48 = .ok (.iconst 0, 1) := by decide +kernel
theorem dX9_taken_49 : decode cX9_taken 49 = .ok (.istore 5, 2) := by decide +kernel
theorem dX9_taken_51 : decode cX9_taken 51 = .ok (.iload 5, 2) := by decide +kernel
theorem dX9_taken_53 : decode cX9_taken 53 = .ok (.bipush 60, 2) := by decide +kernel
theorem dX9_taken_55 : decode cX9_taken 55 = .ok (.if_icmp .ge 38, 3) := by decide +kernel
theorem dX9_taken_58 : decode cX9_taken 58 = .ok (.iload 4, 2) := by decide +kernel
theorem dX9_taken_60 : decode cX9_taken 60 = .ok (.bipush (-6), 2) := by decide +kernel
theorem dX9_taken_62 : decode cX9_taken 62 = .ok (.if_icmp .ne 31, 3) := by decide +kernel
theorem dX9_taken_65 : decode cX9_taken 65 = .ok (.aload_n 0, 1) := by decide +kernel
theorem dX9_taken_66 : decode cX9_taken 66 = .ok (.invokevirtual 149, 3) := by decide +kernel
theorem dX9_taken_69 : decode cX9_taken 69 = .ok (.istore 6, 2) := by decide +kernel
theorem dX9_taken_71 : decode cX9_taken 71 = .ok (.aload_n 0, 1) := by decide +kernel
theorem dX9_taken_72 : decode cX9_taken 72 = .ok (.getfield 86, 3) := by decide +kernel
theorem dX9_taken_75 : decode cX9_taken 75 = .ok (.ifCond .eq 8, 3) := by decide +kernel
theorem dX9_taken_78 : decode cX9_taken 78 = .ok (.iload 5, 2) := by decide +kernel
theorem dX9_taken_80 : decode cX9_taken 80 = .ok (.goto 5, 3) := by decide +kernel
theorem dX9_taken_83 : decode cX9_taken 83 = .ok (.bipush (-6), 2) := by decide +kernel
theorem dX9_taken_85 : decode cX9_taken 85 = .ok (.istore 4, 2) := by decide +kernel
theorem dX9_taken_87 : decode cX9_taken 87 = .ok (.iinc 5 1, 3) := by decide +kernel
theorem dX9_taken_90 : decode cX9_taken 90 = .ok (.goto (-39), 3) := by decide +kernel
theorem dX9_taken_93 : decode cX9_taken 93 = .ok (.aload_n 0, 1) := by decide +kernel
theorem dX9_taken_94 : decode cX9_taken 94 = .ok (.invokevirtual 173, 3) := by decide +kernel
theorem dX9_taken_97 : decode cX9_taken 97 = .ok (.iload 4, 2) := by decide +kernel
theorem dX9_taken_99 : decode cX9_taken 99 = .ok (.ireturn, 1) := by decide +kernel
theorem dX9_put_0 : decode cX9_put 0 = .ok (.iconst 0, 1) := by decide +kernel
theorem dX9_put_1 : decode cX9_put 1 = .ok (.istore_n 3, 1) := by decide +kernel
theorem dX9_put_2 : decode cX9_put 2 = .ok (.iconst 0, 1) := by decide +kernel
theorem dX9_put_3 : decode cX9_put 3 = .ok (.istore 4, 2) := by decide +kernel
theorem dX9_put_5 : decode cX9_put 5 = .ok (.iconst 0, 1) := by decide +kernel
theorem dX9_put_6 : decode cX9_put 6 = .ok (.istore 5, 2) := by decide +kernel
theorem dX9_put_8 : decode cX9_put 8 = .ok (.iload 5, 2) := by decide +kernel
theorem dX9_put_10 : decode cX9_put 10 = .ok (.bipush 8, 2) := by decide +kernel
theorem dX9_put_12 : decode cX9_put 12 = .ok (.if_icmp .ge 89, 3) := by decide +kernel
theorem dX9_put_15 : decode cX9_put 15 = .ok (.lload_n 1, 1) := by decide +kernel
theorem dX9_put_16 : decode cX9_put 16 = .ok (.bipush 8, 2) := by decide +kernel
theorem dX9_put_18 : decode cX9_put 18 = .ok (.iload 5, 2) := by decide +kernel
theorem dX9_put_20 : decode cX9_put 20 = .ok (.imul, 1) := by decide +kernel
theorem dX9_put_21 : decode cX9_put 21 = .ok (.lushr, 1) := by decide +kernel
theorem dX9_put_22 : decode cX9_put 22 = .ok (.ldc2_w 176, 3) := by decide +kernel
theorem dX9_put_25 : decode cX9_put 25 = .ok (.land, 1) := by decide +kernel
theorem dX9_put_26 : decode cX9_put 26 = .ok (.l2i, 1) := by decide +kernel
theorem dX9_put_27 : decode cX9_put 27 = .ok (.istore 6, 2) := by decide +kernel
theorem dX9_put_29 : decode cX9_put 29 = .ok (.iload 5, 2) := by decide +kernel
theorem dX9_put_31 : decode cX9_put 31 = .ok (.ifCond .le 19, 3) := by decide +kernel
theorem dX9_put_34 : decode cX9_put 34 = .ok (.lload_n 1, 1) := by decide +kernel
theorem dX9_put_35 : decode cX9_put 35 = .ok (.bipush 8, 2) := by decide +kernel
theorem dX9_put_37 : decode cX9_put 37 = .ok (.iload 5, 2) := by decide +kernel
theorem dX9_put_39 : decode cX9_put 39 = .ok (.imul, 1) := by decide +kernel
theorem dX9_put_40 : decode cX9_put 40 = .ok (.lushr, 1) := by decide +kernel
theorem dX9_put_41 : decode cX9_put 41 = .ok (.lconst 0, 1) := by decide +kernel
theorem dX9_put_42 : decode cX9_put 42 = .ok (.lcmp, 1) := by decide +kernel
theorem dX9_put_43 : decode cX9_put 43 = .ok (.ifCond .ne 7, 3) := by decide +kernel
theorem dX9_put_46 : decode cX9_put 46 = .ok (.iconst 1, 1) := by decide +kernel
theorem dX9_put_47 : decode cX9_put 47 = .ok (.goto 4, 3) := by decide +kernel
theorem dX9_put_50 : decode cX9_put 50 = .ok (.iconst 0, 1) := by decide +kernel
theorem dX9_put_51 : decode cX9_put 51 = .ok (.istore 7, 2) := by decide +kernel
theorem dX9_put_53 : decode cX9_put 53 = .ok (.iload 4, 2) := by decide +kernel
theorem dX9_put_55 : decode cX9_put 55 = .ok (.ifCond .ne 20, 3) := by decide +kernel
theorem dX9_put_58 : decode cX9_put 58 = .ok (.iload 7, 2) := by decide +kernel
theorem dX9_put_60 : decode cX9_put 60 = .ok (.ifCond .ne 19, 3) := by decide +kernel
theorem dX9_put_63 : decode cX9_put 63 = .ok (.iload 6, 2) := by decide +kernel
theorem dX9_put_65 : decode cX9_put 65 = .ok (.bipush 33, 2) := by decide +kernel
theorem dX9_put_67 : decode cX9_put 67 = .ok (.bipush 126, 2) := by decide +kernel
theorem dX9_put_69 : decode cX9_put 69 = .ok (.invokestatic 50, 3) := by decide +kernel
theorem dX9_put_72 : decode cX9_put 72 = .ok (.ifCond .ne 7, 3) := by decide +kernel
theorem dX9_put_75 : decode cX9_put 75 = .ok (.iconst 1, 1) := by decide +kernel
theorem dX9_put_76 : decode cX9_put 76 = .ok (.goto 4, 3) := by decide +kernel
theorem dX9_put_79 : decode cX9_put 79 = .ok (.iconst 0, 1) := by decide +kernel
theorem dX9_put_80 : decode cX9_put 80 = .ok (.istore 4, 2) := by decide +kernel
theorem dX9_put_82 : decode cX9_put 82 = .ok (.iload_n 3, 1) := by decide +kernel
theorem dX9_put_83 : decode cX9_put 83 = .ok (.iload 7, 2) := by decide +kernel
theorem dX9_put_85 : decode cX9_put 85 = .ok (.ifCond .eq 7, 3) := by decide +kernel
theorem dX9_put_88 : decode cX9_put 88 = .ok (.iconst 0, 1) := by decide +kernel
theorem dX9_put_89 : decode cX9_put 89 = .ok (.goto 4, 3) := by decide +kernel
theorem dX9_put_92 : decode cX9_put 92 = .ok (.iconst 1, 1) := by decide +kernel
theorem dX9_put_93 : decode cX9_put 93 = .ok (.iadd, 1) := by decide +kernel
theorem dX9_put_94 : decode cX9_put 94 = .ok (.istore_n 3, 1) := by decide +kernel
theorem dX9_put_95 : decode cX9_put 95 = .ok (.iinc 5 1, 3) := by decide +kernel
theorem dX9_put_98 : decode cX9_put 98 = .ok (.goto (-90), 3) := by decide +kernel
theorem dX9_put_101 : decode cX9_put 101 = .ok (.iload 4, 2) := by decide +kernel
theorem dX9_put_103 : decode cX9_put 103 = .ok (.ifCond .eq 6, 3) := by decide +kernel
theorem dX9_put_106 : decode cX9_put 106 = .ok (.bipush (-2), 2) := by decide +kernel
theorem dX9_put_108 : decode cX9_put 108 = .ok (.ireturn, 1) := by decide +kernel
theorem dX9_put_109 : decode cX9_put 109 = .ok (.aload_n 0, 1) := by decide +kernel
theorem dX9_put_110 : decode cX9_put 110 = .ok (.getfield 167, 3) := by decide +kernel
theorem dX9_put_113 : decode cX9_put 113 = .ok (.iload_n 3, 1) := by decide +kernel
theorem dX9_put_114 : decode cX9_put 114 = .ok (.iadd, 1) := by decide +kernel
theorem dX9_put_115 : decode cX9_put 115 = .ok (.bipush 64, 2) := by decide +kernel
theorem dX9_put_117 : decode cX9_put 117 = .ok (.if_icmp .le 6, 3) := by decide +kernel
theorem dX9_put_120 : decode cX9_put 120 = .ok (.bipush (-4), 2) := by decide +kernel
theorem dX9_put_122 : decode cX9_put 122 = .ok (.ireturn, 1) := by decide +kernel
theorem dX9_put_123 : decode cX9_put 123 = .ok (.iconst 0, 1) := by decide +kernel
theorem dX9_put_124 : decode cX9_put 124 = .ok (.istore 5, 2) := by decide +kernel
theorem dX9_put_126 : decode cX9_put 126 = .ok (.iload 5, 2) := by decide +kernel
theorem dX9_put_128 : decode cX9_put 128 = .ok (.iload_n 3, 1) := by decide +kernel
theorem dX9_put_129 : decode cX9_put 129 = .ok (.if_icmp .ge 37, 3) := by decide +kernel
theorem dX9_put_132 : decode cX9_put 132 = .ok (.aload_n 0, 1) := by decide +kernel
theorem dX9_put_133 : decode cX9_put 133 = .ok (.getfield 26, 3) := by decide +kernel
theorem dX9_put_136 : decode cX9_put 136 = .ok (.aload_n 0, 1) := by decide +kernel
theorem dX9_put_137 : decode cX9_put 137 = .ok (.getfield 167, 3) := by decide +kernel
theorem dX9_put_140 : decode cX9_put 140 = .ok (.iload_n 3, 1) := by decide +kernel
theorem dX9_put_141 : decode cX9_put 141 = .ok (.iadd, 1) := by decide +kernel
theorem dX9_put_142 : decode cX9_put 142 = .ok (.iconst 1, 1) := by decide +kernel
theorem dX9_put_143 : decode cX9_put 143 = .ok (.isub, 1) := by decide +kernel
theorem dX9_put_144 : decode cX9_put 144 = .ok (.iload 5, 2) := by decide +kernel
theorem dX9_put_146 : decode cX9_put 146 = .ok (.isub, 1) := by decide +kernel
theorem dX9_put_147 : decode cX9_put 147 = .ok (.lload_n 1, 1) := by decide +kernel
theorem dX9_put_148 : decode cX9_put 148 = .ok (.bipush 8, 2) := by decide +kernel
theorem dX9_put_150 : decode cX9_put 150 = .ok (.iload 5, 2) := by decide +kernel
theorem dX9_put_152 : decode cX9_put 152 = .ok (.imul, 1) := by decide +kernel
theorem dX9_put_153 : decode cX9_put 153 = .ok (.lushr, 1) := by decide +kernel
theorem dX9_put_154 : decode cX9_put 154 = .ok (.ldc2_w 176, 3) := by decide +kernel
theorem dX9_put_157 : decode cX9_put 157 = .ok (.land, 1) := by decide +kernel
theorem dX9_put_158 : decode cX9_put 158 = .ok (.l2i, 1) := by decide +kernel
theorem dX9_put_159 : decode cX9_put 159 = .ok (.iastore, 1) := by decide +kernel
theorem dX9_put_160 : decode cX9_put 160 = .ok (.iinc 5 1, 3) := by decide +kernel
theorem dX9_put_163 : decode cX9_put 163 = .ok (.goto (-37), 3) := by decide +kernel
theorem dX9_put_166 : decode cX9_put 166 = .ok (.aload_n 0, 1) := by decide +kernel
theorem dX9_put_167 : decode cX9_put 167 = .ok (.dup, 1) := by decide +kernel
theorem dX9_put_168 : decode cX9_put 168 = .ok (.getfield 167, 3) := by decide +kernel
theorem dX9_put_171 : decode cX9_put 171 = .ok (.iload_n 3, 1) := by decide +kernel
theorem dX9_put_172 : decode cX9_put 172 = .ok (.iadd, 1) := by decide +kernel
theorem dX9_put_173 : decode cX9_put 173 = .ok (.putfield 167, 3) := by decide +kernel
theorem dX9_put_176 : decode cX9_put 176 = .ok (.aload_n 0, 1) := by decide +kernel
theorem dX9_put_177 : decode cX9_put 177 = .ok (.getfield 167, 3) := by decide +kernel
theorem dX9_put_180 : decode cX9_put 180 = .ok (.ireturn, 1) := by decide +kernel
theorem dX9_wipe_0 : decode cX9_wipe 0 = .ok (.aload_n 0, 1) := by decide +kernel
theorem dX9_wipe_1 : decode cX9_wipe 1 = .ok (.getfield 167, 3) := by decide +kernel
theorem dX9_wipe_4 : decode cX9_wipe 4 = .ok (.istore_n 1, 1) := by decide +kernel
theorem dX9_wipe_5 : decode cX9_wipe 5 = .ok (.aload_n 0, 1) := by decide +kernel
theorem dX9_wipe_6 : decode cX9_wipe 6 = .ok (.iconst 0, 1) := by decide +kernel
theorem dX9_wipe_7 : decode cX9_wipe 7 = .ok (.putfield 167, 3) := by decide +kernel
theorem dX9_wipe_10 : decode cX9_wipe 10 = .ok (.iload_n 1, 1) := by decide +kernel
theorem dX9_wipe_11 : decode cX9_wipe 11 = .ok (.ireturn, 1) := by decide +kernel
theorem dX9_sign_0 : decode cX9_sign 0 = .ok (.aload_n 0, 1) := by decide +kernel
theorem dX9_sign_1 : decode cX9_sign 1 = .ok (.getfield 178, 3) := by decide +kernel
theorem dX9_sign_4 : decode cX9_sign 4 = .ok (.aload_n 0, 1) := by decide +kernel
theorem dX9_sign_5 : decode cX9_sign 5 = .ok (.getfield 167, 3) := by decide +kernel
theorem dX9_sign_8 : decode cX9_sign 8 = .ok (.if_icmp .ge 15, 3) := by decide +kernel
theorem dX9_sign_11 : decode cX9_sign 11 = .ok (.aload_n 0, 1) := by decide +kernel
theorem dX9_sign_12 : decode cX9_sign 12 = .ok (.getfield 26, 3) := by decide +kernel
theorem dX9_sign_15 : decode cX9_sign 15 = .ok (.aload_n 0, 1) := by decide +kernel
theorem dX9_sign_16 : decode cX9_sign 16 = .ok (.getfield 178, 3) := by decide +kernel
theorem dX9_sign_19 : decode cX9_sign 19 = .ok (.iaload, 1) := by decide +kernel
theorem dX9_sign_20 : decode cX9_sign 20 = .ok (.goto 4, 3) := by decide +kernel
theorem dX9_sign_23 : decode cX9_sign 23 = .ok (.iconst 0, 1) := by decide +kernel
theorem dX9_sign_24 : decode cX9_sign 24 = .ok (.istore_n 3, 1) := by decide +kernel
theorem dX9_sign_25 : decode cX9_sign 25 = .ok (.aload_n 0, 1) := by decide +kernel
theorem dX9_sign_26 : decode cX9_sign 26 = .ok (.aload_n 0, 1) := by decide +kernel
theorem dX9_sign_27 : decode cX9_sign 27 = .ok (.getfield 181, 3) := by decide +kernel
theorem dX9_sign_30 : decode cX9_sign 30 = .ok (.ifCond .ne 12, 3) := by decide +kernel
theorem dX9_sign_33 : decode cX9_sign 33 = .ok (.iload_n 3, 1) := by decide +kernel
theorem dX9_sign_34 : decode cX9_sign 34 = .ok (.iload_n 1, 1) := by decide +kernel
theorem dX9_sign_35 : decode cX9_sign 35 = .ok (.iload_n 2, 1) := by decide +kernel
theorem dX9_sign_36 : decode cX9_sign 36 = .ok (.invokestatic 50, 3) := by decide +kernel
theorem dX9_sign_39 : decode cX9_sign 39 = .ok (.ifCond .ne 7, 3) := by decide +kernel
theorem dX9_sign_42 : decode cX9_sign 42 = .ok (.iconst 1, 1) := by decide +kernel
theorem dX9_sign_43 : decode cX9_sign 43 = .ok (.goto 4, 3) := by decide +kernel
theorem dX9_sign_46 : decode cX9_sign 46 = .ok (.iconst 0, 1) := by decide +kernel
theorem dX9_sign_47 : decode cX9_sign 47 = .ok (.putfield 181, 3) := by decide +kernel
theorem dX9_sign_50 : decode cX9_sign 50 = .ok (.aload_n 0, 1) := by decide +kernel
theorem dX9_sign_51 : decode cX9_sign 51 = .ok (.dup, 1) := by decide +kernel
theorem dX9_sign_52 : decode cX9_sign 52 = .ok (.getfield 178, 3) := by decide +kernel
theorem dX9_sign_55 : decode cX9_sign 55 = .ok (.aload_n 0, 1) := by decide +kernel
theorem dX9_sign_56 : decode cX9_sign 56 = .ok (.getfield 181, 3) := by decide +kernel
theorem dX9_sign_59 : decode cX9_sign 59 = .ok (.ifCond .eq 7, 3) := by decide +kernel
theorem dX9_sign_62 : decode cX9_sign 62 = .ok (.iconst 0, 1) := by decide +kernel
theorem dX9_sign_63 : decode cX9_sign 63 = .ok (.goto 4, 3) := by decide +kernel
theorem dX9_sign_66 : decode cX9_sign 66 = .ok (.iconst 1, 1) := by decide +kernel
theorem dX9_sign_67 : decode cX9_sign 67 = .ok (.iadd, 1) := by decide +kernel
theorem dX9_sign_68 : decode cX9_sign 68 = .ok (.putfield 178, 3) := by decide +kernel
theorem dX9_sign_71 : decode cX9_sign 71 = .ok (.iload_n 3, 1) := by decide +kernel
theorem dX9_sign_72 : decode cX9_sign 72 = .ok (.ireturn, 1) := by decide +kernel
theorem dX9_isNext_0 : decode cX9_isNext 0 = .ok (.aload_n 0, 1) := by decide +kernel
theorem dX9_isNext_1 : decode cX9_isNext 1 = .ok (.getfield 181, 3) := by decide +kernel
theorem dX9_isNext_4 : decode cX9_isNext 4 = .ok (.ifCond .ne 35, 3) := by decide +kernel
theorem dX9_isNext_7 : decode cX9_isNext 7 = .ok (.aload_n 0, 1) := by decide +kernel
theorem dX9_isNext_8 : decode cX9_isNext 8 = .ok (.getfield 178, 3) := by decide +kernel
theorem dX9_isNext_11 : decode cX9_isNext 11 = .ok (.aload_n 0, 1) := by decide +kernel
theorem dX9_isNext_12 : decode cX9_isNext 12 = .ok (.getfield 167, 3) := by decide +kernel
theorem dX9_isNext_15 : decode cX9_isNext 15 = .ok (.if_icmp .ge 24, 3) := by decide +kernel
theorem dX9_isNext_18 : decode cX9_isNext 18 = .ok (.aload_n 0, 1) := by decide +kernel
theorem dX9_isNext_19 : decode cX9_isNext 19 = .ok (.getfield 26, 3) := by decide +kernel
theorem dX9_isNext_22 : decode cX9_isNext 22 = .ok (.aload_n 0, 1) := by decide +kernel
theorem dX9_isNext_23 : decode cX9_isNext 23 = .ok (.getfield 178, 3) := by decide +kernel
theorem dX9_isNext_26 : decode cX9_isNext 26 = .ok (.iaload, 1) := by decide +kernel
theorem dX9_isNext_27 : decode cX9_isNext 27 = .ok (.iload_n 1, 1) := by decide +kernel
theorem dX9_isNext_28 : decode cX9_isNext 28 = .ok (.iload_n 2, 1) := by decide +kernel
theorem dX9_isNext_29 : decode cX9_isNext 29 = .ok (.invokestatic 50, 3) := by decide +kernel
theorem dX9_isNext_32 : decode cX9_isNext 32 = .ok (.ifCond .eq 7, 3) := by decide +kernel
theorem dX9_isNext_35 : decode cX9_isNext 35 = .ok (.iconst 1, 1) := by decide +kernel
theorem dX9_isNext_36 : decode cX9_isNext 36 = .ok (.goto 4, 3) := by decide +kernel
theorem dX9_isNext_39 : decode cX9_isNext 39 = .ok (.iconst 0, 1) := by decide +kernel
theorem dX9_isNext_40 : decode cX9_isNext 40 = .ok (.ireturn, 1) := by decide +kernel
theorem dX9_number_0 : decode cX9_number 0 = .ok (.aload_n 0, 1) := by decide +kernel
theorem dX9_number_1 : decode cX9_number 1 = .ok (.bipush 48, 2) := by decide +kernel
theorem dX9_number_3 : decode cX9_number 3 = .ok (.bipush 57, 2) := by decide +kernel
theorem dX9_number_5 : decode cX9_number 5 = .ok (.invokevirtual 184, 3) := by decide +kernel
theorem dX9_number_8 : decode cX9_number 8 = .ok (.bipush 48, 2) := by decide +kernel
theorem dX9_number_10 : decode cX9_number 10 = .ok (.isub, 1) := by decide +kernel
theorem dX9_number_11 : decode cX9_number 11 = .ok (.istore_n 2, 1) := by decide +kernel
theorem dX9_number_12 : decode cX9_number 12 = .ok (.iload_n 2, 1) := by decide +kernel
theorem dX9_number_13 : decode cX9_number 13 = .ok (.ifCond .le 39, 3) := by decide +kernel
theorem dX9_number_16 : decode cX9_number 16 = .ok (.aload_n 0, 1) := by decide +kernel
theorem dX9_number_17 : decode cX9_number 17 = .ok (.bipush 48, 2) := by decide +kernel
theorem dX9_number_19 : decode cX9_number 19 = .ok (.bipush 57, 2) := by decide +kernel
theorem dX9_number_21 : decode cX9_number 21 = .ok (.invokevirtual 187, 3) := by decide +kernel
theorem dX9_number_24 : decode cX9_number 24 = .ok (.ifCond .eq 28, 3) := by decide +kernel
theorem dX9_number_27 : decode cX9_number 27 = .ok (.bipush 10, 2) := by decide +kernel
theorem dX9_number_29 : decode cX9_number 29 = .ok (.iload_n 2, 1) := by decide +kernel
theorem dX9_number_30 : decode cX9_number 30 = .ok (.imul, 1) := by decide +kernel
theorem dX9_number_31 : decode cX9_number 31 = .ok (.aload_n 0, 1) := by decide +kernel
theorem dX9_number_32 : decode cX9_number 32 = .ok (.getfield 26, 3) := by decide +kernel
theorem dX9_number_35 : decode cX9_number 35 = .ok (.aload_n 0, 1) := by decide +kernel
theorem dX9_number_36 : decode cX9_number 36 = .ok (.getfield 178, 3) := by decide +kernel
theorem dX9_number_39 : decode cX9_number 39 = .ok (.iaload, 1) := by decide +kernel
theorem dX9_number_40 : decode cX9_number 40 = .ok (.iadd, 1) := by decide +kernel
theorem dX9_number_41 : decode cX9_number 41 = .ok (.bipush 48, 2) := by decide +kernel
theorem dX9_number_43 : decode cX9_number 43 = .ok (.isub, 1) := by decide +kernel
theorem dX9_number_44 : decode cX9_number 44 = .ok (.iload_n 1, 1) := by decide +kernel
theorem dX9_number_45 : decode cX9_number 45 = .ok (.if_icmp .gt 7, 3) := by decide +kernel
theorem dX9_number_48 : decode cX9_number 48 = .ok (.iconst 1, 1) := by decide +kernel
theorem dX9_number_49 : decode cX9_number 49 = .ok (.goto 4, 3) := by decide +kernel
theorem dX9_number_52 : decode cX9_number 52 = .ok (.iconst 0, 1) := by decide +kernel
theorem dX9_number_53 : decode cX9_number 53 = .ok (.istore_n 3, 1) := by decide +kernel
theorem dX9_number_54 : decode cX9_number 54 = .ok (.iload_n 3, 1) := by decide +kernel
theorem dX9_number_55 : decode cX9_number 55 = .ok (.ifCond .eq 22, 3) := by decide +kernel
theorem dX9_number_58 : decode cX9_number 58 = .ok (.bipush 10, 2) := by decide +kernel
theorem dX9_number_60 : decode cX9_number 60 = .ok (.iload_n 2, 1) := by decide +kernel
theorem dX9_number_61 : decode cX9_number 61 = .ok (.imul, 1) := by decide +kernel
theorem dX9_number_62 : decode cX9_number 62 = .ok (.aload_n 0, 1) := by decide +kernel
theorem dX9_number_63 : decode cX9_number 63 = .ok (.bipush 48, 2) := by decide +kernel
theorem dX9_number_65 : decode cX9_number 65 = .ok (.bipush 57, 2) := by decide +kernel
theorem dX9_number_67 : decode cX9_number 67 = .ok (.invokevirtual 184, 3) := by decide +kernel
theorem dX9_number_70 : decode cX9_number 70 = .ok (.iadd, 1) := by decide +kernel
theorem dX9_number_71 : decode cX9_number 71 = .ok (.bipush 48, 2) := by decide +kernel
theorem dX9_number_73 : decode cX9_number 73 = .ok (.isub, 1) := by decide +kernel
theorem dX9_number_74 : decode cX9_number 74 = .ok (.goto 4, 3) := by decide +kernel
theorem dX9_number_77 : decode cX9_number 77 = .ok (.iload_n 2, 1) := by decide +kernel
theorem dX9_number_78 : decode cX9_number 78 = .ok (.ireturn, 1) := by decide +kernel
theorem dX9_tell_0 : decode cX9_tell 0 = .ok (.iconst 0, 1) := by decide +kernel
theorem dX9_tell_1 : decode cX9_tell 1 = .ok (.istore_n 2, 1) := by decide +kernel
theorem dX9_tell_2 : decode cX9_tell 2 = .ok (.iload_n 2, 1) := by decide +kernel
theorem dX9_tell_3 : decode cX9_tell 3 = .ok (.aload_n 0, 1) := by decide +kernel
theorem dX9_tell_4 : decode cX9_tell 4 = .ok (.getfield 190, 3) := by decide +kernel
theorem dX9_tell_7 : decode cX9_tell 7 = .ok (.if_icmp .ge 42, 3) := by decide +kernel
theorem dX9_tell_10 : decode cX9_tell 10 = .ok (.iload_n 2, 1) := by decide +kernel
theorem dX9_tell_11 : decode cX9_tell 11 = .ok (.sipush 150, 3) := by decide +kernel
theorem dX9_tell_14 : decode cX9_tell 14 = .ok (.if_icmp .ge 35, 3) := by decide +kernel
theorem dX9_tell_17 : decode cX9_tell 17 = .ok (.aload_n 0, 1) := by decide +kernel
theorem dX9_tell_18 : decode cX9_tell 18 = .ok (.aload_n 0, 1) := by decide +kernel
theorem dX9_tell_19 : decode cX9_tell 19 = .ok (.getfield 193, 3) := by decide +kernel
theorem dX9_tell_22 : decode cX9_tell 22 = .ok (.ifCond .ne 13, 3) := by decide +kernel
theorem dX9_tell_25 : decode cX9_tell 25 = .ok (.aload_n 0, 1) := by decide +kernel
theorem dX9_tell_26 : decode cX9_tell 26 = .ok (.getfield 44, 3) := by decide +kernel
theorem dX9_tell_29 : decode cX9_tell 29 = .ok (.iload_n 2, 1) := by decide +kernel
theorem dX9_tell_30 : decode cX9_tell 30 = .ok (.iaload, 1) := by decide +kernel
theorem dX9_tell_31 : decode cX9_tell 31 = .ok (.iload_n 1, 1) := by decide +kernel
theorem dX9_tell_32 : decode cX9_tell 32 = .ok (.if_icmp .ne 7, 3) := by decide +kernel
theorem dX9_tell_35 : decode cX9_tell 35 = .ok (.iconst 1, 1) := by decide +kernel
theorem dX9_tell_36 : decode cX9_tell 36 = .ok (.goto 4, 3) := by decide +kernel
theorem dX9_tell_39 : decode cX9_tell 39 = .ok (.iconst 0, 1) := by decide +kernel
theorem dX9_tell_40 : decode cX9_tell 40 = .ok (.putfield 193, 3) := by decide +kernel
theorem dX9_tell_43 : decode cX9_tell 43 = .ok (.iinc 2 1, 3) := by decide +kernel
theorem dX9_tell_46 : decode cX9_tell 46 = .ok (.goto (-44), 3) := by decide +kernel
theorem dX9_tell_49 : decode cX9_tell 49 = .ok (.aload_n 0, 1) := by decide +kernel
theorem dX9_tell_50 : decode cX9_tell 50 = .ok (.aload_n 0, 1) := by decide +kernel
theorem dX9_tell_51 : decode cX9_tell 51 = .ok (.getfield 193, 3) := by decide +kernel
theorem dX9_tell_54 : decode cX9_tell 54 = .ok (.ifCond .ne 9, 3) := by decide +kernel
theorem dX9_tell_57 : decode cX9_tell 57 = .ok (.iload_n 1, 1) := by decide +kernel
theorem dX9_tell_58 : decode cX9_tell 58 = .ok (.bipush (-6), 2) := by decide +kernel
theorem dX9_tell_60 : decode cX9_tell 60 = .ok (.if_icmp .ne 7, 3) := by decide +kernel
theorem dX9_tell_63 : decode cX9_tell 63 = .ok (.iconst 1, 1) := by decide +kernel
theorem dX9_tell_64 : decode cX9_tell 64 = .ok (.goto 4, 3) := by decide +kernel
theorem dX9_tell_67 : decode cX9_tell 67 = .ok (.iconst 0, 1) := by decide +kernel
theorem dX9_tell_68 : decode cX9_tell 68 = .ok (.putfield 193, 3) := by decide +kernel
theorem dX9_tell_71 : decode cX9_tell 71 = .ok (.aload_n 0, 1) := by decide +kernel
theorem dX9_tell_72 : decode cX9_tell 72 = .ok (.getfield 193, 3) := by decide +kernel
theorem dX9_tell_75 : decode cX9_tell 75 = .ok (.ifCond .ne 23, 3) := by decide +kernel
theorem dX9_tell_78 : decode cX9_tell 78 = .ok (.aload_n 0, 1) := by decide +kernel
theorem dX9_tell_79 : decode cX9_tell 79 = .ok (.getfield 190, 3) := by decide +kernel
theorem dX9_tell_82 : decode cX9_tell 82 = .ok (.sipush 150, 3) := by decide +kernel
theorem dX9_tell_85 : decode cX9_tell 85 = .ok (.if_icmp .ge 13, 3) := by decide +kernel
theorem dX9_tell_88 : decode cX9_tell 88 = .ok (.aload_n 0, 1) := by decide +kernel
theorem dX9_tell_89 : decode cX9_tell 89 = .ok (.getfield 44, 3) := by decide +kernel
theorem dX9_tell_92 : decode cX9_tell 92 = .ok (.aload_n 0, 1) := by decide +kernel
theorem dX9_tell_93 : decode cX9_tell 93 = .ok (.getfield 190, 3) := by decide +kernel
theorem dX9_tell_96 : decode cX9_tell 96 = .ok (.iload_n 1, 1) := by decide +kernel
theorem dX9_tell_97 : decode cX9_tell 97 = .ok (.iastore, 1) := by decide +kernel
theorem dX9_tell_98 : decode cX9_tell 98 = .ok (.aload_n 0, 1) := by decide +kernel
theorem dX9_tell_99 : decode cX9_tell 99 = .ok (.dup, 1) := by decide +kernel
theorem dX9_tell_100 : decode cX9_tell 100 = .ok (.getfield 190, 3) := by decide +kernel
theorem dX9_tell_103 : decode cX9_tell 103 = .ok (.iconst 1, 1) := by decide +kernel
theorem dX9_tell_104 : decode cX9_tell 104 = .ok (.iadd, 1) := by decide +kernel
theorem dX9_tell_105 : decode cX9_tell 105 = .ok (.putfield 190, 3) := by decide +kernel
theorem dX9_tell_108 : decode cX9_tell 108 = .ok (.return_, 1) := by decide +kernel
theorem dX9_readPad_0 : decode cX9_readPad 0 = .ok (.aload_n 0, 1) := by decide +kernel
theorem dX9_readPad_1 : decode cX9_readPad 1 = .ok (.iconst 0, 1) := by decide +kernel
theorem dX9_readPad_2 : decode cX9_readPad 2 = .ok (.putfield 178, 3) := by decide +kernel
theorem dX9_readPad_5 : decode cX9_readPad 5 = .ok (.aload_n 0, 1) := by decide +kernel
theorem dX9_readPad_6 : decode cX9_readPad 6 = .ok (.iconst 0, 1) := by decide +kernel
theorem dX9_readPad_7 : decode cX9_readPad 7 = .ok (.putfield 181, 3) := by decide +kernel
theorem dX9_readPad_10 : decode cX9_readPad 10 = .ok (.aload_n 0, 1) := by decide +kernel
theorem dX9_readPad_11 : decode cX9_readPad 11 = .ok (.iconst 0, 1) := by decide +kernel
theorem dX9_readPad_12 : decode cX9_readPad 12 = .ok (.putfield 190, 3) := by decide +kernel
theorem dX9_readPad_15 : decode cX9_readPad 15 = .ok (.aload_n 0, 1) := by decide +kernel
theorem dX9_readPad_16 : decode cX9_readPad 16 = .ok (.iconst 0, 1) := by decide +kernel
theorem dX9_readPad_17 : decode cX9_readPad 17 = .ok (.putfield 193, 3) := by decide +kernel
theorem dX9_readPad_20 : decode cX9_readPad 20 = .ok (.aload_n 0, 1) := by decide +kernel
theorem dX9_readPad_21 : decode cX9_readPad 21 = .ok (.bipush 19, 2) := by decide +kernel
theorem dX9_readPad_23 : decode cX9_readPad 23 = .ok (.invokevirtual 196, 3) := by decide +kernel
theorem dX9_readPad_26 : decode cX9_readPad 26 = .ok (.istore_n 1, 1) := by decide +kernel
theorem dX9_readPad_27 : decode cX9_readPad 27 = .ok (.aload_n 0, 1) := by decide +kernel
theorem dX9_readPad_28 : decode cX9_readPad 28 = .ok (.bipush 44, 2) := by decide +kernel
theorem dX9_readPad_30 : decode cX9_readPad 30 = .ok (.bipush 44, 2) := by decide +kernel
theorem dX9_readPad_32 : decode cX9_readPad 32 = .ok (.invokevirtual 184, 3) := by decide +kernel
theorem dX9_readPad_35 : decode cX9_readPad 35 = .ok (.istore_n 2, 1) := by decide +kernel
theorem dX9_readPad_36 : decode cX9_readPad 36 = .ok (.aload_n 0, 1) := by decide +kernel
theorem dX9_readPad_37 : decode cX9_readPad 37 = .ok (.bipush 11, 2) := by decide +kernel
theorem dX9_readPad_39 : decode cX9_readPad 39 = .ok (.invokevirtual 196, 3) := by decide +kernel
theorem dX9_readPad_42 : decode cX9_readPad 42 = .ok (.istore_n 3, 1) := by decide +kernel
theorem dX9_readPad_43 : decode cX9_readPad 43 = .ok (.aload_n 0, 1) := by decide +kernel
theorem dX9_readPad_44 : decode cX9_readPad 44 = .ok (.bipush 58, 2) := by decide +kernel
theorem dX9_readPad_46 : decode cX9_readPad 46 = .ok (.bipush 58, 2) := by decide +kernel
theorem dX9_readPad_48 : decode cX9_readPad 48 = .ok (.invokevirtual 184, 3) := by decide +kernel
theorem dX9_readPad_51 : decode cX9_readPad 51 = .ok (.istore_n 2, 1) := by decide +kernel
theorem dX9_readPad_52 : decode cX9_readPad 52 = .ok (.aload_n 0, 1) := by decide +kernel
theorem dX9_readPad_53 : decode cX9_readPad 53 = .ok (.getfield 181, 3) := by decide +kernel
theorem dX9_readPad_56 : decode cX9_readPad 56 = .ok (.ifCond .ne 13, 3) := by decide +kernel
theorem dX9_readPad_59 : decode cX9_readPad 59 = .ok (.aload_n 0, 1) := by decide +kernel
theorem dX9_readPad_60 : decode cX9_readPad 60 = .ok (.bipush 20, 2) := by decide +kernel
theorem dX9_readPad_62 : decode cX9_readPad 62 = .ok (.iload_n 3, 1) := by decide +kernel
theorem dX9_readPad_63 : decode cX9_readPad 63 = .ok (.imul, 1) := by decide +kernel
theorem dX9_readPad_64 : decode cX9_readPad 64 = .ok (.iload_n 1, 1) := by decide +kernel
theorem dX9_readPad_65 : decode cX9_readPad 65 = .ok (.iadd, 1) := by decide +kernel
theorem dX9_readPad_66 : decode cX9_readPad 66 = .ok (.invokevirtual 199, 3) := by decide +kernel
theorem dX9_readPad_69 : decode cX9_readPad 69 = .ok (.iconst 1, 1) := by decide +kernel
theorem dX9_readPad_70 : decode cX9_readPad 70 = .ok (.istore 4, 2) := by decide +kernel
theorem dX9_readPad_72 : decode cX9_readPad 72 = .ok (.iload 4, 2) := by decide +kernel
theorem dX9_readPad_74 : decode cX9_readPad 74 = .ok (.ifCond .eq 263, 3) := by decide +kernel
theorem dX9_readPad_77 : decode cX9_readPad 77 = .ok (.aload_n 0, 1) := by decide +kernel
theorem dX9_readPad_78 : decode cX9_readPad 78 = .ok (.getfield 178, 3) := by decide +kernel
theorem dX9_readPad_81 : decode cX9_readPad 81 = .ok (.aload_n 0, 1) := by decide +kernel
theorem dX9_readPad_82 : decode cX9_readPad 82 = .ok (.getfield 167, 3) := by decide +kernel
theorem dX9_readPad_85 : decode cX9_readPad 85 = .ok (.if_icmp .ge 15, 3) := by decide +kernel
theorem dX9_readPad_88 : decode cX9_readPad 88 = .ok (.aload_n 0, 1) := by decide +kernel
theorem dX9_readPad_89 : decode cX9_readPad 89 = .ok (.getfield 26, 3) := by decide +kernel
theorem dX9_readPad_92 : decode cX9_readPad 92 = .ok (.aload_n 0, 1) := by decide +kernel
theorem dX9_readPad_93 : decode cX9_readPad 93 = .ok (.getfield 178, 3) := by decide +kernel
theorem dX9_readPad_96 : decode cX9_readPad 96 = .ok (.iaload, 1) := by decide +kernel
theorem dX9_readPad_97 : decode cX9_readPad 97 = .ok (.goto 4, 3) := by decide +kernel
theorem dX9_readPad_100 : decode cX9_readPad 100 = .ok (.iconst 0, 1) := by decide +kernel
theorem dX9_readPad_101 : decode cX9_readPad 101 = .ok (.istore 5, 2) := by decide +kernel
theorem dX9_readPad_103 : decode cX9_readPad 103 = .ok (.aload_n 0, 1) := by decide +kernel
theorem dX9_readPad_104 : decode cX9_readPad 104 = .ok (.aload_n 0, 1) := by decide +kernel
theorem dX9_readPad_105 : decode cX9_readPad 105 = .ok (.getfield 181, 3) := by decide +kernel
theorem dX9_readPad_108 : decode cX9_readPad 108 = .ok (.ifCond .ne 31, 3) := by decide +kernel
theorem dX9_readPad_111 : decode cX9_readPad 111 = .ok (.iload 5, 2) := by decide +kernel
theorem dX9_readPad_113 : decode cX9_readPad 113 = .ok (.bipush 114, 2) := by decide +kernel
theorem dX9_readPad_115 : decode cX9_readPad 115 = .ok (.if_icmp .eq 28, 3) := by decide +kernel
theorem dX9_readPad_118 : decode cX9_readPad 118 = .ok (.iload 5, 2) := by decide +kernel
theorem dX9_readPad_120 : decode cX9_readPad 120 = .ok (.bipush 117, 2) := by decide +kernel
theorem dX9_readPad_122 : decode cX9_readPad 122 = .ok (.if_icmp .eq 21, 3) := by decide +kernel
theorem dX9_readPad_125 : decode cX9_readPad 125 = .ok (.iload 5, 2) := by decide +kernel
theorem dX9_readPad_127 : decode cX9_readPad 127 = .ok (.bipush 108, 2) := by decide +kernel
theorem dX9_readPad_129 : decode cX9_readPad 129 = .ok (.if_icmp .eq 14, 3) := by decide +kernel
theorem dX9_readPad_132 : decode cX9_readPad 132 = .ok (.iload 5, 2) := by decide +kernel
theorem dX9_readPad_134 : decode cX9_readPad 134 = .ok (.bipush 100, 2) := by decide +kernel
theorem dX9_readPad_136 : decode cX9_readPad 136 = .ok (.if_icmp .eq 7, 3) := by decide +kernel
theorem dX9_readPad_139 : decode cX9_readPad 139 = .ok (.iconst 1, 1) := by decide +kernel
theorem dX9_readPad_140 : decode cX9_readPad 140 = .ok (.goto 4, 3) := by decide +kernel
theorem dX9_readPad_143 : decode cX9_readPad 143 = .ok (.iconst 0, 1) := by decide +kernel
theorem dX9_readPad_144 : decode cX9_readPad 144 = .ok (.putfield 181, 3) := by decide +kernel
theorem dX9_readPad_147 : decode cX9_readPad 147 = .ok (.aload_n 0, 1) := by decide +kernel
theorem dX9_readPad_148 : decode cX9_readPad 148 = .ok (.dup, 1) := by decide +kernel
theorem dX9_readPad_149 : decode cX9_readPad 149 = .ok (.getfield 178, 3) := by decide +kernel
theorem dX9_readPad_152 : decode cX9_readPad 152 = .ok (.aload_n 0, 1) := by decide +kernel
theorem dX9_readPad_153 : decode cX9_readPad 153 = .ok (.getfield 181, 3) := by decide +kernel
theorem dX9_readPad_156 : decode cX9_readPad 156 = .ok (.ifCond .eq 7, 3) := by decide +kernel
theorem dX9_readPad_159 : decode cX9_readPad 159 = .ok (.iconst 0, 1) := by decide +kernel
theorem dX9_readPad_160 : decode cX9_readPad 160 = .ok (.goto 4, 3) := by decide +kernel
theorem dX9_readPad_163 : decode cX9_readPad 163 = .ok (.iconst 1, 1) := by decide +kernel
theorem dX9_readPad_164 : decode cX9_readPad 164 = .ok (.iadd, 1) := by decide +kernel
theorem dX9_readPad_165 : decode cX9_readPad 165 = .ok (.putfield 178, 3) := by decide +kernel
theorem dX9_readPad_168 : decode cX9_readPad 168 = .ok (.iload 5, 2) := by decide +kernel
theorem dX9_readPad_170 : decode cX9_readPad 170 = .ok (.bipush 114, 2) := by decide +kernel
theorem dX9_readPad_172 : decode cX9_readPad 172 = .ok (.if_icmp .ne 7, 3) := by decide +kernel
theorem dX9_readPad_175 : decode cX9_readPad 175 = .ok (.iconst 0, 1) := by decide +kernel
theorem dX9_readPad_176 : decode cX9_readPad 176 = .ok (.goto 26, 3) := by decide +kernel
theorem dX9_readPad_179 : decode cX9_readPad 179 = .ok (.iload 5, 2) := by decide +kernel
theorem dX9_readPad_181 : decode cX9_readPad 181 = .ok (.bipush 117, 2) := by decide +kernel
theorem dX9_readPad_183 : decode cX9_readPad 183 = .ok (.if_icmp .ne 7, 3) := by decide +kernel
theorem dX9_readPad_186 : decode cX9_readPad 186 = .ok (.iconst 1, 1) := by decide +kernel
theorem dX9_readPad_187 : decode cX9_readPad 187 = .ok (.goto 15, 3) := by decide +kernel
theorem dX9_readPad_190 : decode cX9_readPad 190 = .ok (.iload 5, 2) := by decide +kernel
theorem dX9_readPad_192 : decode cX9_readPad 192 = .ok (.bipush 108, 2) := by decide +kernel
theorem dX9_readPad_194 : decode cX9_readPad 194 = .ok (.if_icmp .ne 7, 3) := by decide +kernel
theorem dX9_readPad_197 : decode cX9_readPad 197 = .ok (.iconst 2, 1) := by decide +kernel
theorem dX9_readPad_198 : decode cX9_readPad 198 = .ok (.goto 4, 3) := by decide +kernel
theorem dX9_readPad_201 : decode cX9_readPad 201 = .ok (.iconst 3, 1) := by decide +kernel
theorem dX9_readPad_202 : decode cX9_readPad 202 = .ok (.istore 6, 2) := by decide +kernel
theorem dX9_readPad_204 : decode cX9_readPad 204 = .ok (.aload_n 0, 1) := by decide +kernel
theorem dX9_readPad_205 : decode cX9_readPad 205 = .ok (.bipush 50, 2) := by decide +kernel
theorem dX9_readPad_207 : decode cX9_readPad 207 = .ok (.bipush 57, 2) := by decide +kernel
theorem dX9_readPad_209 : decode cX9_readPad 209 = .ok (.invokevirtual 187, 3) := by decide +kernel
theorem dX9_readPad_212 : decode cX9_readPad 212 = .ok (.ifCond .eq 17, 3) := by decide +kernel
theorem dX9_readPad_215 : decode cX9_readPad 215 = .ok (.aload_n 0, 1) := by decide +kernel
theorem dX9_readPad_216 : decode cX9_readPad 216 = .ok (.bipush 50, 2) := by decide +kernel
theorem dX9_readPad_218 : decode cX9_readPad 218 = .ok (.bipush 57, 2) := by decide +kernel
theorem dX9_readPad_220 : decode cX9_readPad 220 = .ok (.invokevirtual 184, 3) := by decide +kernel
theorem dX9_readPad_223 : decode cX9_readPad 223 = .ok (.bipush 48, 2) := by decide +kernel
theorem dX9_readPad_225 : decode cX9_readPad 225 = .ok (.isub, 1) := by decide +kernel
theorem dX9_readPad_226 : decode cX9_readPad 226 = .ok (.goto 4, 3) := by decide +kernel
theorem dX9_readPad_229 : decode cX9_readPad 229 = .ok (.iconst 1, 1) := by decide +kernel
theorem dX9_readPad_230 : decode cX9_readPad 230 = .ok (.istore 7, 2) := by decide +kernel
theorem dX9_readPad_232 : decode cX9_readPad 232 = .ok (.iconst 0, 1) := by decide +kernel
theorem dX9_readPad_233 : decode cX9_readPad 233 = .ok (.istore 8, 2) := by decide +kernel
theorem dX9_readPad_235 : decode cX9_readPad 235 = .ok (.iload 8, 2) := by decide +kernel
theorem dX9_readPad_237 : decode cX9_readPad 237 = .ok (.iload 7, 2) := by decide +kernel
theorem dX9_readPad_239 : decode cX9_readPad 239 = .ok (.if_icmp .ge 70, 3) := by decide +kernel
theorem dX9_readPad_242 : decode cX9_readPad 242 = .ok (.aload_n 0, 1) := by decide +kernel
theorem dX9_readPad_243 : decode cX9_readPad 243 = .ok (.getfield 181, 3) := by decide +kernel
theorem dX9_readPad_246 : decode cX9_readPad 246 = .ok (.ifCond .ne 63, 3) := by decide +kernel
theorem dX9_readPad_249 : decode cX9_readPad 249 = .ok (.aload_n 0, 1) := by decide +kernel
theorem dX9_readPad_250 : decode cX9_readPad 250 = .ok (.getfield 193, 3) := by decide +kernel
theorem dX9_readPad_253 : decode cX9_readPad 253 = .ok (.ifCond .ne 13, 3) := by decide +kernel
theorem dX9_readPad_256 : decode cX9_readPad 256 = .ok (.aload_n 0, 1) := by decide +kernel
theorem dX9_readPad_257 : decode cX9_readPad 257 = .ok (.getfield 190, 3) := by decide +kernel
theorem dX9_readPad_260 : decode cX9_readPad 260 = .ok (.sipush 150, 3) := by decide +kernel
theorem dX9_readPad_263 : decode cX9_readPad 263 = .ok (.if_icmp .le 7, 3) := by decide +kernel
theorem dX9_readPad_266 : decode cX9_readPad 266 = .ok (.iconst 1, 1) := by decide +kernel
theorem dX9_readPad_267 : decode cX9_readPad 267 = .ok (.goto 4, 3) := by decide +kernel
theorem dX9_readPad_270 : decode cX9_readPad 270 = .ok (.iconst 0, 1) := by decide +kernel
theorem dX9_readPad_271 : decode cX9_readPad 271 = .ok (.istore 9, 2) := by decide +kernel
theorem dX9_readPad_273 : decode cX9_readPad 273 = .ok (.aload_n 0, 1) := by decide +kernel
theorem dX9_readPad_274 : decode cX9_readPad 274 = .ok (.iload 9, 2) := by decide +kernel
theorem dX9_readPad_276 : decode cX9_readPad 276 = .ok (.ifCond .eq 8, 3) := by decide +kernel
theorem dX9_readPad_279 : decode cX9_readPad 279 = .ok (.bipush (-6), 2) := by decide +kernel
theorem dX9_readPad_281 : decode cX9_readPad 281 = .ok (.goto 19, 3) := by decide +kernel
theorem dX9_readPad_284 : decode cX9_readPad 284 = .ok (.aload_n 0, 1) := by decide +kernel
theorem dX9_readPad_285 : decode cX9_readPad 285 = .ok (.getfield 44, 3) := by decide +kernel
theorem dX9_readPad_288 : decode cX9_readPad 288 = .ok (.aload_n 0, 1) := by decide +kernel
theorem dX9_readPad_289 : decode cX9_readPad 289 = .ok (.getfield 190, 3) := by decide +kernel
theorem dX9_readPad_292 : decode cX9_readPad 292 = .ok (.iconst 1, 1) := by decide +kernel
theorem dX9_readPad_293 : decode cX9_readPad 293 = .ok (.isub, 1) := by decide +kernel
theorem dX9_readPad_294 : decode cX9_readPad 294 = .ok (.iaload, 1) := by decide +kernel
theorem dX9_readPad_295 : decode cX9_readPad 295 = .ok (.iload 6, 2) := by decide +kernel
theorem dX9_readPad_297 : decode cX9_readPad 297 = .ok (.invokestatic 72, 3) := by decide +kernel
theorem dX9_readPad_300 : decode cX9_readPad 300 = .ok (.invokevirtual 199, 3) := by decide +kernel
theorem dX9_readPad_303 : decode cX9_readPad 303 = .ok (.iinc 8 1, 3) := by decide +kernel
theorem dX9_readPad_306 : decode cX9_readPad 306 = .ok (.goto (-71), 3) := by decide +kernel
theorem dX9_readPad_309 : decode cX9_readPad 309 = .ok (.aload_n 0, 1) := by decide +kernel
theorem dX9_readPad_310 : decode cX9_readPad 310 = .ok (.getfield 181, 3) := by decide +kernel
theorem dX9_readPad_313 : decode cX9_readPad 313 = .ok (.ifCond .ne 18, 3) := by decide +kernel
theorem dX9_readPad_316 : decode cX9_readPad 316 = .ok (.aload_n 0, 1) := by decide +kernel
theorem dX9_readPad_317 : decode cX9_readPad 317 = .ok (.getfield 178, 3) := by decide +kernel
theorem dX9_readPad_320 : decode cX9_readPad 320 = .ok (.aload_n 0, 1) := by decide +kernel
theorem dX9_readPad_321 : decode cX9_readPad 321 = .ok (.getfield 167, 3) := by decide +kernel
theorem dX9_readPad_324 : decode cX9_readPad 324 = .ok (.if_icmp .ge 7, 3) := by decide +kernel
theorem dX9_readPad_327 : decode cX9_readPad 327 = .ok (.iconst 1, 1) := by decide +kernel
theorem dX9_readPad_328 : decode cX9_readPad 328 = .ok (.goto 4, 3) := by decide +kernel
theorem dX9_readPad_331 : decode cX9_readPad 331 = .ok (.iconst 0, 1) := by decide +kernel
theorem dX9_readPad_332 : decode cX9_readPad 332 = .ok (.istore 4, 2) := by decide +kernel
theorem dX9_readPad_334 : decode cX9_readPad 334 = .ok (.goto (-262), 3) := by decide +kernel
theorem dX9_readPad_337 : decode cX9_readPad 337 = .ok (.return_, 1) := by decide +kernel
theorem dX9_fault_0 : decode cX9_fault 0 = .ok (.aload_n 0, 1) := by decide +kernel
theorem dX9_fault_1 : decode cX9_fault 1 = .ok (.invokevirtual 202, 3) := by decide +kernel
theorem dX9_fault_4 : decode cX9_fault 4 = .ok (.aload_n 0, 1) := by decide +kernel
theorem dX9_fault_5 : decode cX9_fault 5 = .ok (.getfield 181, 3) := by decide +kernel
theorem dX9_fault_8 : decode cX9_fault 8 = .ok (.ifCond .eq 10, 3) := by decide +kernel
theorem dX9_fault_11 : decode cX9_fault 11 = .ok (.aload_n 0, 1) := by decide +kernel
theorem dX9_fault_12 : decode cX9_fault 12 = .ok (.getfield 178, 3) := by decide +kernel
theorem dX9_fault_15 : decode cX9_fault 15 = .ok (.goto 5, 3) := by decide +kernel
theorem dX9_fault_18 : decode cX9_fault 18 = .ok (.bipush (-6), 2) := by decide +kernel
theorem dX9_fault_20 : decode cX9_fault 20 = .ok (.ireturn, 1) := by decide +kernel
theorem dX9_read_0 : decode cX9_read 0 = .ok (.aload_n 0, 1) := by decide +kernel
theorem dX9_read_1 : decode cX9_read 1 = .ok (.invokevirtual 202, 3) := by decide +kernel
theorem dX9_read_4 : decode cX9_read 4 = .ok (.aload_n 0, 1) := by decide +kernel
theorem dX9_read_5 : decode cX9_read 5 = .ok (.getfield 181, 3) := by decide +kernel
theorem dX9_read_8 : decode cX9_read 8 = .ok (.ifCond .eq 6, 3) := by decide +kernel
theorem dX9_read_11 : decode cX9_read 11 = .ok (.bipush (-3), 2) := by decide +kernel
theorem dX9_read_13 : decode cX9_read 13 = .ok (.ireturn, 1) := by decide +kernel
theorem dX9_read_14 : decode cX9_read 14 = .ok (.aload_n 0, 1) := by decide +kernel
theorem dX9_read_15 : decode cX9_read 15 = .ok (.getfield 190, 3) := by decide +kernel
theorem dX9_read_18 : decode cX9_read 18 = .ok (.sipush 150, 3) := by decide +kernel
theorem dX9_read_21 : decode cX9_read 21 = .ok (.if_icmp .le 6, 3) := by decide +kernel
theorem dX9_read_24 : decode cX9_read 24 = .ok (.bipush (-4), 2) := by decide +kernel
theorem dX9_read_26 : decode cX9_read 26 = .ok (.ireturn, 1) := by decide +kernel
theorem dX9_read_27 : decode cX9_read 27 = .ok (.aload_n 0, 1) := by decide +kernel
theorem dX9_read_28 : decode cX9_read 28 = .ok (.getfield 193, 3) := by decide +kernel
theorem dX9_read_31 : decode cX9_read 31 = .ok (.ifCond .eq 6, 3) := by decide +kernel
theorem dX9_read_34 : decode cX9_read 34 = .ok (.bipush (-5), 2) := by decide +kernel
theorem dX9_read_36 : decode cX9_read 36 = .ok (.ireturn, 1) := by decide +kernel
theorem dX9_read_37 : decode cX9_read 37 = .ok (.aload_n 0, 1) := by decide +kernel
theorem dX9_read_38 : decode cX9_read 38 = .ok (.invokevirtual 139, 3) := by decide +kernel
theorem dX9_read_41 : decode cX9_read 41 = .ok (.aload_n 0, 1) := by decide +kernel
theorem dX9_read_42 : decode cX9_read 42 = .ok (.invokevirtual 47, 3) := by decide +kernel
theorem dX9_read_45 : decode cX9_read 45 = .ok (.aload_n 0, 1) := by decide +kernel
theorem dX9_read_46 : decode cX9_read 46 = .ok (.getfield 7, 3) := by decide +kernel
theorem dX9_read_49 : decode cX9_read 49 = .ok (.iconst 4, 1) := by decide +kernel
theorem dX9_read_50 : decode cX9_read 50 = .ok (.aload_n 0, 1) := by decide +kernel
theorem dX9_read_51 : decode cX9_read 51 = .ok (.getfield 190, 3) := by decide +kernel
theorem dX9_read_54 : decode cX9_read 54 = .ok (.iastore, 1) := by decide +kernel
theorem dX9_read_55 : decode cX9_read 55 = .ok (.iconst 0, 1) := by decide +kernel
theorem dX9_read_56 : decode cX9_read 56 = .ok (.istore_n 1, 1) := by decide +kernel
theorem dX9_read_57 : decode cX9_read 57 = .ok (.iload_n 1, 1) := by decide +kernel
theorem dX9_read_58 : decode cX9_read 58 = .ok (.aload_n 0, 1) := by decide +kernel
theorem dX9_read_59 : decode cX9_read 59 = .ok (.getfield 190, 3) := by decide +kernel
theorem dX9_read_62 : decode cX9_read 62 = .ok (.if_icmp .ge 23, 3) := by decide +kernel
theorem dX9_read_65 : decode cX9_read 65 = .ok (.aload_n 0, 1) := by decide +kernel
theorem dX9_read_66 : decode cX9_read 66 = .ok (.getfield 7, 3) := by decide +kernel
theorem dX9_read_69 : decode cX9_read 69 = .ok (.iconst 5, 1) := by decide +kernel
theorem dX9_read_70 : decode cX9_read 70 = .ok (.iload_n 1, 1) := by decide +kernel
theorem dX9_read_71 : decode cX9_read 71 = .ok (.iadd, 1) := by decide +kernel
theorem dX9_read_72 : decode cX9_read 72 = .ok (.aload_n 0, 1) := by decide +kernel
theorem dX9_read_73 : decode cX9_read 73 = .ok (.getfield 44, 3) := by decide +kernel
theorem dX9_read_76 : decode cX9_read 76 = .ok (.iload_n 1, 1) := by decide +kernel
theorem dX9_read_77 : decode cX9_read 77 = .ok (.iaload, 1) := by decide +kernel
theorem dX9_read_78 : decode cX9_read 78 = .ok (.iastore, 1) := by decide +kernel
theorem dX9_read_79 : decode cX9_read 79 = .ok (.iinc 1 1, 3) := by decide +kernel
theorem dX9_read_82 : decode cX9_read 82 = .ok (.goto (-25), 3) := by decide +kernel
theorem dX9_read_85 : decode cX9_read 85 = .ok (.aload_n 0, 1) := by decide +kernel
theorem dX9_read_86 : decode cX9_read 86 = .ok (.iconst 0, 1) := by decide +kernel
theorem dX9_read_87 : decode cX9_read 87 = .ok (.putfield 167, 3) := by decide +kernel
theorem dX9_read_90 : decode cX9_read 90 = .ok (.aload_n 0, 1) := by decide +kernel
theorem dX9_read_91 : decode cX9_read 91 = .ok (.getfield 190, 3) := by decide +kernel
theorem dX9_read_94 : decode cX9_read 94 = .ok (.ireturn, 1) := by decide +kernel
theorem dX9_undo_0 : decode cX9_undo 0 = .ok (.aload_n 0, 1) := by decide +kernel
theorem dX9_undo_1 : decode cX9_undo 1 = .ok (.getfield 54, 3) := by decide +kernel
theorem dX9_undo_4 : decode cX9_undo 4 = .ok (.ifCond .ne 6, 3) := by decide +kernel
theorem dX9_undo_7 : decode cX9_undo 7 = .ok (.bipush (-5), 2) := by decide +kernel
theorem dX9_undo_9 : decode cX9_undo 9 = .ok (.ireturn, 1) := by decide +kernel
theorem dX9_undo_10 : decode cX9_undo 10 = .ok (.aload_n 0, 1) := by decide +kernel
theorem dX9_undo_11 : decode cX9_undo 11 = .ok (.dup, 1) := by decide +kernel
theorem dX9_undo_12 : decode cX9_undo 12 = .ok (.getfield 54, 3) := by decide +kernel
theorem dX9_undo_15 : decode cX9_undo 15 = .ok (.iconst 1, 1) := by decide +kernel
theorem dX9_undo_16 : decode cX9_undo 16 = .ok (.isub, 1) := by decide +kernel
theorem dX9_undo_17 : decode cX9_undo 17 = .ok (.putfield 54, 3) := by decide +kernel
theorem dX9_undo_20 : decode cX9_undo 20 = .ok (.iconst 0, 1) := by decide +kernel
theorem dX9_undo_21 : decode cX9_undo 21 = .ok (.istore_n 1, 1) := by decide +kernel
theorem dX9_undo_22 : decode cX9_undo 22 = .ok (.iload_n 1, 1) := by decide +kernel
theorem dX9_undo_23 : decode cX9_undo 23 = .ok (.sipush 1407, 3) := by decide +kernel
theorem dX9_undo_26 : decode cX9_undo 26 = .ok (.if_icmp .ge 30, 3) := by decide +kernel
theorem dX9_undo_29 : decode cX9_undo 29 = .ok (.aload_n 0, 1) := by decide +kernel
theorem dX9_undo_30 : decode cX9_undo 30 = .ok (.getfield 7, 3) := by decide +kernel
theorem dX9_undo_33 : decode cX9_undo 33 = .ok (.iload_n 1, 1) := by decide +kernel
theorem dX9_undo_34 : decode cX9_undo 34 = .ok (.aload_n 0, 1) := by decide +kernel
theorem dX9_undo_35 : decode cX9_undo 35 = .ok (.getfield 16, 3) := by decide +kernel
theorem dX9_undo_38 : decode cX9_undo 38 = .ok (.sipush 1407, 3) := by decide +kernel
theorem dX9_undo_41 : decode cX9_undo 41 = .ok (.aload_n 0, 1) := by decide +kernel
theorem dX9_undo_42 : decode cX9_undo 42 = .ok (.getfield 54, 3) := by decide +kernel
theorem dX9_undo_45 : decode cX9_undo 45 = .ok (.imul, 1) := by decide +kernel
theorem dX9_undo_46 : decode cX9_undo 46 = .ok (.iload_n 1, 1) := by decide +kernel
theorem dX9_undo_47 : decode cX9_undo 47 = .ok (.iadd, 1) := by decide +kernel
theorem dX9_undo_48 : decode cX9_undo 48 = .ok (.iaload, 1) := by decide +kernel
theorem dX9_undo_49 : decode cX9_undo 49 = .ok (.iastore, 1) := by decide +kernel
theorem dX9_undo_50 : decode cX9_undo 50 = .ok (.iinc 1 1, 3) := by decide +kernel
theorem dX9_undo_53 : decode cX9_undo 53 = .ok (.goto (-31), 3) := by decide +kernel
theorem dX9_undo_56 : decode cX9_undo 56 = .ok (.aload_n 0, 1) := by decide +kernel
theorem dX9_undo_57 : decode cX9_undo 57 = .ok (.getfield 54, 3) := by decide +kernel
theorem dX9_undo_60 : decode cX9_undo 60 = .ok (.ireturn, 1) := by decide +kernel
theorem dX9_save_0 : decode cX9_save 0 = .ok (.iload_n 1, 1) := by decide +kernel
theorem dX9_save_1 : decode cX9_save 1 = .ok (.iconst 0, 1) := by decide +kernel
theorem dX9_save_2 : decode cX9_save 2 = .ok (.iconst 1, 1) := by decide +kernel
theorem dX9_save_3 : decode cX9_save 3 = .ok (.invokestatic 50, 3) := by decide +kernel
theorem dX9_save_6 : decode cX9_save 6 = .ok (.ifCond .ne 6, 3) := by decide +kernel
theorem dX9_save_9 : decode cX9_save 9 = .ok (.bipush (-2), 2) := by decide +kernel
theorem dX9_save_11 : decode cX9_save 11 = .ok (.ireturn, 1) := by decide +kernel
theorem dX9_save_12 : decode cX9_save 12 = .ok (.iconst 0, 1) := by decide +kernel
theorem dX9_save_13 : decode cX9_save 13 = .ok (.istore_n 2, 1) := by decide +kernel
theorem dX9_save_14 : decode cX9_save 14 = .ok (.iload_n 2, 1) := by decide +kernel
theorem dX9_save_15 : decode cX9_save 15 = .ok (.sipush 1407, 3) := by decide +kernel
theorem dX9_save_18 : decode cX9_save 18 = .ok (.if_icmp .ge 27, 3) := by decide +kernel
theorem dX9_save_21 : decode cX9_save 21 = .ok (.aload_n 0, 1) := by decide +kernel
theorem dX9_save_22 : decode cX9_save 22 = .ok (.getfield 19, 3) := by decide +kernel
theorem dX9_save_25 : decode cX9_save 25 = .ok (.sipush 1407, 3) := by decide +kernel
theorem dX9_save_28 : decode cX9_save 28 = .ok (.iload_n 1, 1) := by decide +kernel
theorem dX9_save_29 : decode cX9_save 29 = .ok (.imul, 1) := by decide +kernel
theorem dX9_save_30 : decode cX9_save 30 = .ok (.iload_n 2, 1) := by decide +kernel
theorem dX9_save_31 : decode cX9_save 31 = .ok (.iadd, 1) := by decide +kernel
theorem dX9_save_32 : decode cX9_save 32 = .ok (.aload_n 0, 1) := by decide +kernel
theorem dX9_save_33 : decode cX9_save 33 = .ok (.getfield 7, 3) := by decide +kernel
theorem dX9_save_36 : decode cX9_save 36 = .ok (.iload_n 2, 1) := by decide +kernel
theorem dX9_save_37 : decode cX9_save 37 = .ok (.iaload, 1) := by decide +kernel
theorem dX9_save_38 : decode cX9_save 38 = .ok (.iastore, 1) := by decide +kernel
theorem dX9_save_39 : decode cX9_save 39 = .ok (.iinc 2 1, 3) := by decide +kernel
theorem dX9_save_42 : decode cX9_save 42 = .ok (.goto (-28), 3) := by decide +kernel
theorem dX9_save_45 : decode cX9_save 45 = .ok (.aload_n 0, 1) := by decide +kernel
theorem dX9_save_46 : decode cX9_save 46 = .ok (.getfield 22, 3) := by decide +kernel
theorem dX9_save_49 : decode cX9_save 49 = .ok (.iload_n 1, 1) := by decide +kernel
theorem dX9_save_50 : decode cX9_save 50 = .ok (.iconst 1, 1) := by decide +kernel
theorem dX9_save_51 : decode cX9_save 51 = .ok (.bastore, 1) := by decide +kernel
theorem dX9_save_52 : decode cX9_save 52 = .ok (.aload_n 0, 1) := by decide +kernel
theorem dX9_save_53 : decode cX9_save 53 = .ok (.getfield 7, 3) := by decide +kernel
theorem dX9_save_56 : decode cX9_save 56 = .ok (.iconst 4, 1) := by decide +kernel
theorem dX9_save_57 : decode cX9_save 57 = .ok (.iaload, 1) := by decide +kernel
theorem dX9_save_58 : decode cX9_save 58 = .ok (.ireturn, 1) := by decide +kernel
theorem dX9_restore_0 : decode cX9_restore 0 = .ok (.iload_n 1, 1) := by decide +kernel
theorem dX9_restore_1 : decode cX9_restore 1 = .ok (.iconst 0, 1) := by decide +kernel
theorem dX9_restore_2 : decode cX9_restore 2 = .ok (.iconst 1, 1) := by decide +kernel
theorem dX9_restore_3 : decode cX9_restore 3 = .ok (.invokestatic 50, 3) := by decide +kernel
theorem dX9_restore_6 : decode cX9_restore 6 = .ok (.ifCond .ne 6, 3) := by decide +kernel
theorem dX9_restore_9 : decode cX9_restore 9 = .ok (.bipush (-2), 2) := by decide +kernel
theorem dX9_restore_11 : decode cX9_restore 11 = .ok (.ireturn, 1) := by decide +kernel
theorem dX9_restore_12 : decode cX9_restore 12 = .ok (.aload_n 0, 1) := by decide +kernel
theorem dX9_restore_13 : decode cX9_restore 13 = .ok (.getfield 22, 3) := by decide +kernel
theorem dX9_restore_16 : decode cX9_restore 16 = .ok (.iload_n 1, 1) := by decide +kernel
theorem dX9_restore_17 : decode cX9_restore 17 = .ok (.baload, 1) := by decide +kernel
theorem dX9_restore_18 : decode cX9_restore 18 = .ok (.ifCond .ne 6, 3) := by decide +kernel
theorem dX9_restore_21 : decode cX9_restore 21 = .ok (.bipush (-5), 2) := by decide +kernel
theorem dX9_restore_23 : decode cX9_restore 23 = .ok (.ireturn, 1) := by decide +kernel
theorem dX9_restore_24 : decode cX9_restore 24 = .ok (.aload_n 0, 1) := by decide +kernel
theorem dX9_restore_25 : decode cX9_restore 25 = .ok (.invokevirtual 139, 3) := by decide +kernel
theorem dX9_restore_28 : decode cX9_restore 28 = .ok (.iconst 0, 1) := by decide +kernel
theorem dX9_restore_29 : decode cX9_restore 29 = .ok (.istore_n 2, 1) := by decide +kernel
theorem dX9_restore_30 : decode cX9_restore 30 = .ok (.iload_n 2, 1) := by decide +kernel
theorem dX9_restore_31 : decode cX9_restore 31 = .ok (.sipush 1407, 3) := by decide +kernel
theorem dX9_restore_34 : decode cX9_restore 34 = .ok (.if_icmp .ge 27, 3) := by decide +kernel
theorem dX9_restore_37 : decode cX9_restore 37 = .ok (.aload_n 0, 1) := by decide +kernel
theorem dX9_restore_38 : decode cX9_restore 38 = .ok (.getfield 7, 3) := by decide +kernel
theorem dX9_restore_41 : decode cX9_restore 41 = .ok (.iload_n 2, 1) := by decide +kernel
theorem dX9_restore_42 : decode cX9_restore 42 = .ok (.aload_n 0, 1) := by decide +kernel
theorem dX9_restore_43 : decode cX9_restore 43 = .ok (.getfield 19, 3) := by decide +kernel
theorem dX9_restore_46 : decode cX9_restore 46 = .ok (.sipush 1407, 3) := by decide +kernel
theorem dX9_restore_49 : decode cX9_restore 49 = .ok (.iload_n 1, 1) := by decide +kernel
theorem dX9_restore_50 : decode cX9_restore 50 = .ok (.imul, 1) := by decide +kernel
theorem dX9_restore_51 : decode cX9_restore 51 = .ok (.iload_n 2, 1) := by decide +kernel
theorem dX9_restore_52 : decode cX9_restore 52 = .ok (.iadd, 1) := by decide +kernel
theorem dX9_restore_53 : decode cX9_restore 53 = .ok (.iaload, 1) := by decide +kernel
theorem dX9_restore_54 : decode cX9_restore 54 = .ok (.iastore, 1) := by decide +kernel
theorem dX9_restore_55 : decode cX9_restore 55 = .ok (.iinc 2 1, 3) := by decide +kernel
theorem dX9_restore_58 : decode cX9_restore 58 = .ok (.goto (-28), 3) := by decide +kernel
theorem dX9_restore_61 : decode cX9_restore 61 = .ok (.aload_n 0, 1) := by decide +kernel
theorem dX9_restore_62 : decode cX9_restore 62 = .ok (.getfield 7, 3) := by decide +kernel
theorem dX9_restore_65 : decode cX9_restore 65 = .ok (.iconst 4, 1) := by decide +kernel
theorem dX9_restore_66 : decode cX9_restore 66 = .ok (.iaload, 1) := by decide +kernel
theorem dX9_restore_67 : decode cX9_restore 67 = .ok (.ireturn, 1) := by decide +kernel
theorem dL_law_0 : decode cL_law 0 = .ok (.new 7, 3) := by decide +kernel
theorem dL_law_3 : decode cL_law 3 = .ok (.dup, 1) := by decide +kernel
theorem dL_law_4 : decode cL_law 4 = .ok (.invokespecial 9, 3) := by decide +kernel
theorem dL_law_7 : decode cL_law 7 = .ok (.astore_n 1, 1) := by decide +kernel
theorem dL_law_8 : decode cL_law 8 = .ok (.new 10, 3) := by decide +kernel
theorem dL_law_11 : decode cL_law 11 = .ok (.dup, 1) := by decide +kernel
theorem dL_law_12 : decode cL_law 12 = .ok (.invokespecial 12, 3) := by decide +kernel
theorem dL_law_15 : decode cL_law 15 = .ok (.astore_n 2, 1) := by decide +kernel
theorem dL_law_16 : decode cL_law 16 = .ok (.iconst 0, 1) := by decide +kernel
theorem dL_law_17 : decode cL_law 17 = .ok (.istore_n 3, 1) := by decide +kernel
theorem dL_law_18 : decode cL_law 18 = .ok (.iload_n 3, 1) := by decide +kernel
theorem dL_law_19 : decode cL_law 19 = .ok (.aload_n 0, 1) := by decide +kernel
theorem dL_law_20 : decode cL_law 20 = .ok (.arraylength, 1) := by decide +kernel
theorem dL_law_21 : decode cL_law 21 = .ok (.iconst 4, 1) := by decide +kernel
theorem dL_law_22 : decode cL_law 22 = .ok (.isub, 1) := by decide +kernel
theorem dL_law_23 : decode cL_law 23 = .ok (.if_icmp .gt 767, 3) := by decide +kernel
theorem dL_law_26 : decode cL_law 26 = .ok (.aload_n 0, 1) := by decide +kernel
theorem dL_law_27 : decode cL_law 27 = .ok (.iload_n 3, 1) := by decide +kernel
theorem dL_law_28 : decode cL_law 28 = .ok (.iaload, 1) := by decide +kernel
theorem dL_law_29 : decode cL_law 29 = .ok (.bipush 31, 2) := by decide +kernel
theorem dL_law_31 : decode cL_law 31 = .ok (.iand, 1) := by decide +kernel
theorem dL_law_32 : decode cL_law 32 = .ok (.tableswitch 752 0 21 #[104, 137, 150, 209, 258, 281, 304, 347, 380, 413, 446, 479, 502, 525, 558, 581, 614, 667, 680, 693, 706, 729], 104) := by decide +kernel
theorem dL_law_136 : decode cL_law 136 = .ok (.aload_n 1, 1) := by decide +kernel
theorem dL_law_137 : decode cL_law 137 = .ok (.aload_n 0, 1) := by decide +kernel
theorem dL_law_138 : decode cL_law 138 = .ok (.iload_n 3, 1) := by decide +kernel
theorem dL_law_139 : decode cL_law 139 = .ok (.iconst 1, 1) := by decide +kernel
theorem dL_law_140 : decode cL_law 140 = .ok (.iadd, 1) := by decide +kernel
theorem dL_law_141 : decode cL_law 141 = .ok (.iaload, 1) := by decide +kernel
theorem dL_law_142 : decode cL_law 142 = .ok (.aload_n 0, 1) := by decide +kernel
theorem dL_law_143 : decode cL_law 143 = .ok (.iload_n 3, 1) := by decide +kernel
theorem dL_law_144 : decode cL_law 144 = .ok (.iconst 2, 1) := by decide +kernel
theorem dL_law_145 : decode cL_law 145 = .ok (.iadd, 1) := by decide +kernel
theorem dL_law_146 : decode cL_law 146 = .ok (.iaload, 1) := by decide +kernel
theorem dL_law_147 : decode cL_law 147 = .ok (.invokevirtual 13, 3) := by decide +kernel
theorem dL_law_150 : decode cL_law 150 = .ok (.aload_n 2, 1) := by decide +kernel
theorem dL_law_151 : decode cL_law 151 = .ok (.aload_n 0, 1) := by decide +kernel
theorem dL_law_152 : decode cL_law 152 = .ok (.iload_n 3, 1) := by decide +kernel
theorem dL_law_153 : decode cL_law 153 = .ok (.iconst 1, 1) := by decide +kernel
theorem dL_law_154 : decode cL_law 154 = .ok (.iadd, 1) := by decide +kernel
theorem dL_law_155 : decode cL_law 155 = .ok (.iaload, 1) := by decide +kernel
theorem dL_law_156 : decode cL_law 156 = .ok (.aload_n 0, 1) := by decide +kernel
theorem dL_law_157 : decode cL_law 157 = .ok (.iload_n 3, 1) := by decide +kernel
theorem dL_law_158 : decode cL_law 158 = .ok (.iconst 2, 1) := by decide +kernel
theorem dL_law_159 : decode cL_law 159 = .ok (.iadd, 1) := by decide +kernel
theorem dL_law_160 : decode cL_law 160 = .ok (.iaload, 1) := by decide +kernel
theorem dL_law_161 : decode cL_law 161 = .ok (.invokevirtual 17, 3) := by decide +kernel
theorem dL_law_164 : decode cL_law 164 = .ok (.if_icmp .eq 620, 3) := by decide +kernel
theorem dL_law_167 : decode cL_law 167 = .ok (.iconst 0, 1) := by decide +kernel
theorem dL_law_168 : decode cL_law 168 = .ok (.ireturn, 1) := by decide +kernel
theorem dL_law_169 : decode cL_law 169 = .ok (.aload_n 1, 1) := by decide +kernel
theorem dL_law_170 : decode cL_law 170 = .ok (.invokevirtual 18, 3) := by decide +kernel
theorem dL_law_173 : decode cL_law 173 = .ok (.aload_n 2, 1) := by decide +kernel
theorem dL_law_174 : decode cL_law 174 = .ok (.invokevirtual 22, 3) := by decide +kernel
theorem dL_law_177 : decode cL_law 177 = .ok (.if_icmp .eq 607, 3) := by decide +kernel
theorem dL_law_180 : decode cL_law 180 = .ok (.iconst 0, 1) := by decide +kernel
theorem dL_law_181 : decode cL_law 181 = .ok (.ireturn, 1) := by decide +kernel
theorem dL_law_182 : decode cL_law 182 = .ok (.aload_n 1, 1) := by decide +kernel
theorem dL_law_183 : decode cL_law 183 = .ok (.aload_n 0, 1) := by decide +kernel
theorem dL_law_184 : decode cL_law 184 = .ok (.iload_n 3, 1) := by decide +kernel
theorem dL_law_185 : decode cL_law 185 = .ok (.iconst 1, 1) := by decide +kernel
theorem dL_law_186 : decode cL_law 186 = .ok (.iadd, 1) := by decide +kernel
theorem dL_law_187 : decode cL_law 187 = .ok (.iaload, 1) := by decide +kernel
theorem dL_law_188 : decode cL_law 188 = .ok (.aload_n 0, 1) := by decide +kernel
theorem dL_law_189 : decode cL_law 189 = .ok (.iload_n 3, 1) := by decide +kernel
theorem dL_law_190 : decode cL_law 190 = .ok (.iconst 2, 1) := by decide +kernel
theorem dL_law_191 : decode cL_law 191 = .ok (.iadd, 1) := by decide +kernel
theorem dL_law_192 : decode cL_law 192 = .ok (.iaload, 1) := by decide +kernel
theorem dL_law_193 : decode cL_law 193 = .ok (.aload_n 0, 1) := by decide +kernel
theorem dL_law_194 : decode cL_law 194 = .ok (.iload_n 3, 1) := by decide +kernel
theorem dL_law_195 : decode cL_law 195 = .ok (.iconst 3, 1) := by decide +kernel
theorem dL_law_196 : decode cL_law 196 = .ok (.iadd, 1) := by decide +kernel
theorem dL_law_197 : decode cL_law 197 = .ok (.iaload, 1) := by decide +kernel
theorem dL_law_198 : decode cL_law 198 = .ok (.ifCond .eq 7, 3) := by decide +kernel
theorem dL_law_201 : decode cL_law 201 = .ok (.iconst 1, 1) := by decide +kernel
theorem dL_law_202 : decode cL_law 202 = .ok (.goto 4, 3) := by decide +kernel
theorem dL_law_205 : decode cL_law 205 = .ok (.iconst 0, 1) := by decide +kernel
theorem dL_law_206 : decode cL_law 206 = .ok (.invokevirtual 23, 3) := by decide +kernel
theorem dL_law_209 : decode cL_law 209 = .ok (.aload_n 2, 1) := by decide +kernel
theorem dL_law_210 : decode cL_law 210 = .ok (.aload_n 0, 1) := by decide +kernel
theorem dL_law_211 : decode cL_law 211 = .ok (.iload_n 3, 1) := by decide +kernel
theorem dL_law_212 : decode cL_law 212 = .ok (.iconst 1, 1) := by decide +kernel
theorem dL_law_213 : decode cL_law 213 = .ok (.iadd, 1) := by decide +kernel
theorem dL_law_214 : decode cL_law 214 = .ok (.iaload, 1) := by decide +kernel
theorem dL_law_215 : decode cL_law 215 = .ok (.aload_n 0, 1) := by decide +kernel
theorem dL_law_216 : decode cL_law 216 = .ok (.iload_n 3, 1) := by decide +kernel
theorem dL_law_217 : decode cL_law 217 = .ok (.iconst 2, 1) := by decide +kernel
theorem dL_law_218 : decode cL_law 218 = .ok (.iadd, 1) := by decide +kernel
theorem dL_law_219 : decode cL_law 219 = .ok (.iaload, 1) := by decide +kernel
theorem dL_law_220 : decode cL_law 220 = .ok (.aload_n 0, 1) := by decide +kernel
theorem dL_law_221 : decode cL_law 221 = .ok (.iload_n 3, 1) := by decide +kernel
theorem dL_law_222 : decode cL_law 222 = .ok (.iconst 3, 1) := by decide +kernel
theorem dL_law_223 : decode cL_law 223 = .ok (.iadd, 1) := by decide +kernel
theorem dL_law_224 : decode cL_law 224 = .ok (.iaload, 1) := by decide +kernel
theorem dL_law_225 : decode cL_law 225 = .ok (.ifCond .eq 7, 3) := by decide +kernel
theorem dL_law_228 : decode cL_law 228 = .ok (.iconst 1, 1) := by decide +kernel
theorem dL_law_229 : decode cL_law 229 = .ok (.goto 4, 3) := by decide +kernel
theorem dL_law_232 : decode cL_law 232 = .ok (.iconst 0, 1) := by decide +kernel
theorem dL_law_233 : decode cL_law 233 = .ok (.invokevirtual 27, 3) := by decide +kernel
theorem dL_law_236 : decode cL_law 236 = .ok (.if_icmp .eq 548, 3) := by decide +kernel
theorem dL_law_239 : decode cL_law 239 = .ok (.iconst 0, 1) := by decide +kernel
theorem dL_law_240 : decode cL_law 240 = .ok (.ireturn, 1) := by decide +kernel
theorem dL_law_241 : decode cL_law 241 = .ok (.aload_n 1, 1) := by decide +kernel
theorem dL_law_242 : decode cL_law 242 = .ok (.aload_n 0, 1) := by decide +kernel
theorem dL_law_243 : decode cL_law 243 = .ok (.iload_n 3, 1) := by decide +kernel
theorem dL_law_244 : decode cL_law 244 = .ok (.iconst 1, 1) := by decide +kernel
theorem dL_law_245 : decode cL_law 245 = .ok (.iadd, 1) := by decide +kernel
theorem dL_law_246 : decode cL_law 246 = .ok (.iaload, 1) := by decide +kernel
theorem dL_law_247 : decode cL_law 247 = .ok (.aload_n 0, 1) := by decide +kernel
theorem dL_law_248 : decode cL_law 248 = .ok (.iload_n 3, 1) := by decide +kernel
theorem dL_law_249 : decode cL_law 249 = .ok (.iconst 2, 1) := by decide +kernel
theorem dL_law_250 : decode cL_law 250 = .ok (.iadd, 1) := by decide +kernel
theorem dL_law_251 : decode cL_law 251 = .ok (.iaload, 1) := by decide +kernel
theorem dL_law_252 : decode cL_law 252 = .ok (.ifCond .eq 7, 3) := by decide +kernel
theorem dL_law_255 : decode cL_law 255 = .ok (.iconst 1, 1) := by decide +kernel
theorem dL_law_256 : decode cL_law 256 = .ok (.goto 4, 3) := by decide +kernel
theorem dL_law_259 : decode cL_law 259 = .ok (.iconst 0, 1) := by decide +kernel
theorem dL_law_260 : decode cL_law 260 = .ok (.invokevirtual 28, 3) := by decide +kernel
theorem dL_law_263 : decode cL_law 263 = .ok (.aload_n 2, 1) := by decide +kernel
theorem dL_law_264 : decode cL_law 264 = .ok (.aload_n 0, 1) := by decide +kernel
theorem dL_law_265 : decode cL_law 265 = .ok (.iload_n 3, 1) := by decide +kernel
theorem dL_law_266 : decode cL_law 266 = .ok (.iconst 1, 1) := by decide +kernel
theorem dL_law_267 : decode cL_law 267 = .ok (.iadd, 1) := by decide +kernel
theorem dL_law_268 : decode cL_law 268 = .ok (.iaload, 1) := by decide +kernel
theorem dL_law_269 : decode cL_law 269 = .ok (.aload_n 0, 1) := by decide +kernel
theorem dL_law_270 : decode cL_law 270 = .ok (.iload_n 3, 1) := by decide +kernel
theorem dL_law_271 : decode cL_law 271 = .ok (.iconst 2, 1) := by decide +kernel
theorem dL_law_272 : decode cL_law 272 = .ok (.iadd, 1) := by decide +kernel
theorem dL_law_273 : decode cL_law 273 = .ok (.iaload, 1) := by decide +kernel
theorem dL_law_274 : decode cL_law 274 = .ok (.ifCond .eq 7, 3) := by decide +kernel
theorem dL_law_277 : decode cL_law 277 = .ok (.iconst 1, 1) := by decide +kernel
theorem dL_law_278 : decode cL_law 278 = .ok (.goto 4, 3) := by decide +kernel
theorem dL_law_281 : decode cL_law 281 = .ok (.iconst 0, 1) := by decide +kernel
theorem dL_law_282 : decode cL_law 282 = .ok (.invokevirtual 32, 3) := by decide +kernel
theorem dL_law_285 : decode cL_law 285 = .ok (.if_icmp .eq 499, 3) := by decide +kernel
theorem dL_law_288 : decode cL_law 288 = .ok (.iconst 0, 1) := by decide +kernel
theorem dL_law_289 : decode cL_law 289 = .ok (.ireturn, 1) := by decide +kernel
theorem dL_law_290 : decode cL_law 290 = .ok (.aload_n 1, 1) := by decide +kernel
theorem dL_law_291 : decode cL_law 291 = .ok (.aload_n 0, 1) := by decide +kernel
theorem dL_law_292 : decode cL_law 292 = .ok (.iload_n 3, 1) := by decide +kernel
theorem dL_law_293 : decode cL_law 293 = .ok (.iconst 1, 1) := by decide +kernel
theorem dL_law_294 : decode cL_law 294 = .ok (.iadd, 1) := by decide +kernel
theorem dL_law_295 : decode cL_law 295 = .ok (.iaload, 1) := by decide +kernel
theorem dL_law_296 : decode cL_law 296 = .ok (.invokevirtual 33, 3) := by decide +kernel
theorem dL_law_299 : decode cL_law 299 = .ok (.aload_n 2, 1) := by decide +kernel
theorem dL_law_300 : decode cL_law 300 = .ok (.aload_n 0, 1) := by decide +kernel
theorem dL_law_301 : decode cL_law 301 = .ok (.iload_n 3, 1) := by decide +kernel
theorem dL_law_302 : decode cL_law 302 = .ok (.iconst 1, 1) := by decide +kernel
theorem dL_law_303 : decode cL_law 303 = .ok (.iadd, 1) := by decide +kernel
theorem dL_law_304 : decode cL_law 304 = .ok (.iaload, 1) := by decide +kernel
theorem dL_law_305 : decode cL_law 305 = .ok (.invokevirtual 37, 3) := by decide +kernel
theorem dL_law_308 : decode cL_law 308 = .ok (.if_icmp .eq 476, 3) := by decide +kernel
theorem dL_law_311 : decode cL_law 311 = .ok (.iconst 0, 1) := by decide +kernel
theorem dL_law_312 : decode cL_law 312 = .ok (.ireturn, 1) := by decide +kernel
theorem dL_law_313 : decode cL_law 313 = .ok (.aload_n 1, 1) := by decide +kernel
theorem dL_law_314 : decode cL_law 314 = .ok (.aload_n 0, 1) := by decide +kernel
theorem dL_law_315 : decode cL_law 315 = .ok (.iload_n 3, 1) := by decide +kernel
theorem dL_law_316 : decode cL_law 316 = .ok (.iconst 1, 1) := by decide +kernel
theorem dL_law_317 : decode cL_law 317 = .ok (.iadd, 1) := by decide +kernel
theorem dL_law_318 : decode cL_law 318 = .ok (.iaload, 1) := by decide +kernel
theorem dL_law_319 : decode cL_law 319 = .ok (.invokevirtual 38, 3) := by decide +kernel
theorem dL_law_322 : decode cL_law 322 = .ok (.aload_n 2, 1) := by decide +kernel
theorem dL_law_323 : decode cL_law 323 = .ok (.aload_n 0, 1) := by decide +kernel
theorem dL_law_324 : decode cL_law 324 = .ok (.iload_n 3, 1) := by decide +kernel
theorem dL_law_325 : decode cL_law 325 = .ok (.iconst 1, 1) := by decide +kernel
theorem dL_law_326 : decode cL_law 326 = .ok (.iadd, 1) := by decide +kernel
theorem dL_law_327 : decode cL_law 327 = .ok (.iaload, 1) := by decide +kernel
theorem dL_law_328 : decode cL_law 328 = .ok (.invokevirtual 41, 3) := by decide +kernel
theorem dL_law_331 : decode cL_law 331 = .ok (.if_icmp .eq 453, 3) := by decide +kernel
theorem dL_law_334 : decode cL_law 334 = .ok (.iconst 0, 1) := by decide +kernel
theorem dL_law_335 : decode cL_law 335 = .ok (.ireturn, 1) := by decide +kernel
theorem dL_law_336 : decode cL_law 336 = .ok (.aload_n 1, 1) := by decide +kernel
theorem dL_law_337 : decode cL_law 337 = .ok (.aload_n 0, 1) := by decide +kernel
theorem dL_law_338 : decode cL_law 338 = .ok (.iload_n 3, 1) := by decide +kernel
theorem dL_law_339 : decode cL_law 339 = .ok (.iconst 1, 1) := by decide +kernel
theorem dL_law_340 : decode cL_law 340 = .ok (.iadd, 1) := by decide +kernel
theorem dL_law_341 : decode cL_law 341 = .ok (.iaload, 1) := by decide +kernel
theorem dL_law_342 : decode cL_law 342 = .ok (.aload_n 0, 1) := by decide +kernel
theorem dL_law_343 : decode cL_law 343 = .ok (.iload_n 3, 1) := by decide +kernel
theorem dL_law_344 : decode cL_law 344 = .ok (.iconst 2, 1) := by decide +kernel
theorem dL_law_345 : decode cL_law 345 = .ok (.iadd, 1) := by decide +kernel
theorem dL_law_346 : decode cL_law 346 = .ok (.iaload, 1) := by decide +kernel
theorem dL_law_347 : decode cL_law 347 = .ok (.aload_n 0, 1) := by decide +kernel
theorem dL_law_348 : decode cL_law 348 = .ok (.iload_n 3, 1) := by decide +kernel
theorem dL_law_349 : decode cL_law 349 = .ok (.iconst 3, 1) := by decide +kernel
theorem dL_law_350 : decode cL_law 350 = .ok (.iadd, 1) := by decide +kernel
theorem dL_law_351 : decode cL_law 351 = .ok (.iaload, 1) := by decide +kernel
theorem dL_law_352 : decode cL_law 352 = .ok (.invokevirtual 42, 3) := by decide +kernel
theorem dL_law_355 : decode cL_law 355 = .ok (.aload_n 2, 1) := by decide +kernel
theorem dL_law_356 : decode cL_law 356 = .ok (.aload_n 0, 1) := by decide +kernel
theorem dL_law_357 : decode cL_law 357 = .ok (.iload_n 3, 1) := by decide +kernel
theorem dL_law_358 : decode cL_law 358 = .ok (.iconst 1, 1) := by decide +kernel
theorem dL_law_359 : decode cL_law 359 = .ok (.iadd, 1) := by decide +kernel
theorem dL_law_360 : decode cL_law 360 = .ok (.iaload, 1) := by decide +kernel
theorem dL_law_361 : decode cL_law 361 = .ok (.aload_n 0, 1) := by decide +kernel
theorem dL_law_362 : decode cL_law 362 = .ok (.iload_n 3, 1) := by decide +kernel
theorem dL_law_363 : decode cL_law 363 = .ok (.iconst 2, 1) := by decide +kernel
theorem dL_law_364 : decode cL_law 364 = .ok (.iadd, 1) := by decide +kernel
theorem dL_law_365 : decode cL_law 365 = .ok (.iaload, 1) := by decide +kernel
theorem dL_law_366 : decode cL_law 366 = .ok (.aload_n 0, 1) := by decide +kernel
theorem dL_law_367 : decode cL_law 367 = .ok (.iload_n 3, 1) := by decide +kernel
theorem dL_law_368 : decode cL_law 368 = .ok (.iconst 3, 1) := by decide +kernel
theorem dL_law_369 : decode cL_law 369 = .ok (.iadd, 1) := by decide +kernel
theorem dL_law_370 : decode cL_law 370 = .ok (.iaload, 1) := by decide +kernel
theorem dL_law_371 : decode cL_law 371 = .ok (.invokevirtual 46, 3) := by decide +kernel
theorem dL_law_374 : decode cL_law 374 = .ok (.if_icmp .eq 410, 3) := by decide +kernel
theorem dL_law_377 : decode cL_law 377 = .ok (.iconst 0, 1) := by decide +kernel
theorem dL_law_378 : decode cL_law 378 = .ok (.ireturn, 1) := by decide +kernel
theorem dL_law_379 : decode cL_law 379 = .ok (.aload_n 1, 1) := by decide +kernel
theorem dL_law_380 : decode cL_law 380 = .ok (.aload_n 0, 1) := by decide +kernel
theorem dL_law_381 : decode cL_law 381 = .ok (.iload_n 3, 1) := by decide +kernel
theorem dL_law_382 : decode cL_law 382 = .ok (.iconst 1, 1) := by decide +kernel
theorem dL_law_383 : decode cL_law 383 = .ok (.iadd, 1) := by decide +kernel
theorem dL_law_384 : decode cL_law 384 = .ok (.iaload, 1) := by decide +kernel
theorem dL_law_385 : decode cL_law 385 = .ok (.aload_n 0, 1) := by decide +kernel
theorem dL_law_386 : decode cL_law 386 = .ok (.iload_n 3, 1) := by decide +kernel
theorem dL_law_387 : decode cL_law 387 = .ok (.iconst 2, 1) := by decide +kernel
theorem dL_law_388 : decode cL_law 388 = .ok (.iadd, 1) := by decide +kernel
theorem dL_law_389 : decode cL_law 389 = .ok (.iaload, 1) := by decide +kernel
theorem dL_law_390 : decode cL_law 390 = .ok (.invokevirtual 47, 3) := by decide +kernel
theorem dL_law_393 : decode cL_law 393 = .ok (.aload_n 2, 1) := by decide +kernel
theorem dL_law_394 : decode cL_law 394 = .ok (.aload_n 0, 1) := by decide +kernel
theorem dL_law_395 : decode cL_law 395 = .ok (.iload_n 3, 1) := by decide +kernel
theorem dL_law_396 : decode cL_law 396 = .ok (.iconst 1, 1) := by decide +kernel
theorem dL_law_397 : decode cL_law 397 = .ok (.iadd, 1) := by decide +kernel
theorem dL_law_398 : decode cL_law 398 = .ok (.iaload, 1) := by decide +kernel
theorem dL_law_399 : decode cL_law 399 = .ok (.aload_n 0, 1) := by decide +kernel
theorem dL_law_400 : decode cL_law 400 = .ok (.iload_n 3, 1) := by decide +kernel
theorem dL_law_401 : decode cL_law 401 = .ok (.iconst 2, 1) := by decide +kernel
theorem dL_law_402 : decode cL_law 402 = .ok (.iadd, 1) := by decide +kernel
theorem dL_law_403 : decode cL_law 403 = .ok (.iaload, 1) := by decide +kernel
theorem dL_law_404 : decode cL_law 404 = .ok (.invokevirtual 50, 3) := by decide +kernel
theorem dL_law_407 : decode cL_law 407 = .ok (.if_icmp .eq 377, 3) := by decide +kernel
theorem dL_law_410 : decode cL_law 410 = .ok (.iconst 0, 1) := by decide +kernel
theorem dL_law_411 : decode cL_law 411 = .ok (.ireturn, 1) := by decide +kernel
theorem dL_law_412 : decode cL_law 412 = .ok (.aload_n 1, 1) := by decide +kernel
theorem dL_law_413 : decode cL_law 413 = .ok (.aload_n 0, 1) := by decide +kernel
theorem dL_law_414 : decode cL_law 414 = .ok (.iload_n 3, 1) := by decide +kernel
theorem dL_law_415 : decode cL_law 415 = .ok (.iconst 1, 1) := by decide +kernel
theorem dL_law_416 : decode cL_law 416 = .ok (.iadd, 1) := by decide +kernel
theorem dL_law_417 : decode cL_law 417 = .ok (.iaload, 1) := by decide +kernel
theorem dL_law_418 : decode cL_law 418 = .ok (.aload_n 0, 1) := by decide +kernel
theorem dL_law_419 : decode cL_law 419 = .ok (.iload_n 3, 1) := by decide +kernel
theorem dL_law_420 : decode cL_law 420 = .ok (.iconst 2, 1) := by decide +kernel
theorem dL_law_421 : decode cL_law 421 = .ok (.iadd, 1) := by decide +kernel
theorem dL_law_422 : decode cL_law 422 = .ok (.iaload, 1) := by decide +kernel
theorem dL_law_423 : decode cL_law 423 = .ok (.invokevirtual 51, 3) := by decide +kernel
theorem dL_law_426 : decode cL_law 426 = .ok (.aload_n 2, 1) := by decide +kernel
theorem dL_law_427 : decode cL_law 427 = .ok (.aload_n 0, 1) := by decide +kernel
theorem dL_law_428 : decode cL_law 428 = .ok (.iload_n 3, 1) := by decide +kernel
theorem dL_law_429 : decode cL_law 429 = .ok (.iconst 1, 1) := by decide +kernel
theorem dL_law_430 : decode cL_law 430 = .ok (.iadd, 1) := by decide +kernel
theorem dL_law_431 : decode cL_law 431 = .ok (.iaload, 1) := by decide +kernel
theorem dL_law_432 : decode cL_law 432 = .ok (.aload_n 0, 1) := by decide +kernel
theorem dL_law_433 : decode cL_law 433 = .ok (.iload_n 3, 1) := by decide +kernel
theorem dL_law_434 : decode cL_law 434 = .ok (.iconst 2, 1) := by decide +kernel
theorem dL_law_435 : decode cL_law 435 = .ok (.iadd, 1) := by decide +kernel
theorem dL_law_436 : decode cL_law 436 = .ok (.iaload, 1) := by decide +kernel
theorem dL_law_437 : decode cL_law 437 = .ok (.invokevirtual 54, 3) := by decide +kernel
theorem dL_law_440 : decode cL_law 440 = .ok (.if_icmp .eq 344, 3) := by decide +kernel
theorem dL_law_443 : decode cL_law 443 = .ok (.iconst 0, 1) := by decide +kernel
theorem dL_law_444 : decode cL_law 444 = .ok (.ireturn, 1) := by decide +kernel
theorem dL_law_445 : decode cL_law 445 = .ok (.aload_n 1, 1) := by decide +kernel
theorem dL_law_446 : decode cL_law 446 = .ok (.aload_n 0, 1) := by decide +kernel
theorem dL_law_447 : decode cL_law 447 = .ok (.iload_n 3, 1) := by decide +kernel
theorem dL_law_448 : decode cL_law 448 = .ok (.iconst 1, 1) := by decide +kernel
theorem dL_law_449 : decode cL_law 449 = .ok (.iadd, 1) := by decide +kernel
theorem dL_law_450 : decode cL_law 450 = .ok (.iaload, 1) := by decide +kernel
theorem dL_law_451 : decode cL_law 451 = .ok (.aload_n 0, 1) := by decide +kernel
theorem dL_law_452 : decode cL_law 452 = .ok (.iload_n 3, 1) := by decide +kernel
theorem dL_law_453 : decode cL_law 453 = .ok (.iconst 2, 1) := by decide +kernel
theorem dL_law_454 : decode cL_law 454 = .ok (.iadd, 1) := by decide +kernel
theorem dL_law_455 : decode cL_law 455 = .ok (.iaload, 1) := by decide +kernel
theorem dL_law_456 : decode cL_law 456 = .ok (.invokevirtual 55, 3) := by decide +kernel
theorem dL_law_459 : decode cL_law 459 = .ok (.aload_n 2, 1) := by decide +kernel
theorem dL_law_460 : decode cL_law 460 = .ok (.aload_n 0, 1) := by decide +kernel
theorem dL_law_461 : decode cL_law 461 = .ok (.iload_n 3, 1) := by decide +kernel
theorem dL_law_462 : decode cL_law 462 = .ok (.iconst 1, 1) := by decide +kernel
theorem dL_law_463 : decode cL_law 463 = .ok (.iadd, 1) := by decide +kernel
theorem dL_law_464 : decode cL_law 464 = .ok (.iaload, 1) := by decide +kernel
theorem dL_law_465 : decode cL_law 465 = .ok (.aload_n 0, 1) := by decide +kernel
theorem dL_law_466 : decode cL_law 466 = .ok (.iload_n 3, 1) := by decide +kernel
theorem dL_law_467 : decode cL_law 467 = .ok (.iconst 2, 1) := by decide +kernel
theorem dL_law_468 : decode cL_law 468 = .ok (.iadd, 1) := by decide +kernel
theorem dL_law_469 : decode cL_law 469 = .ok (.iaload, 1) := by decide +kernel
theorem dL_law_470 : decode cL_law 470 = .ok (.invokevirtual 58, 3) := by decide +kernel
theorem dL_law_473 : decode cL_law 473 = .ok (.if_icmp .eq 311, 3) := by decide +kernel
theorem dL_law_476 : decode cL_law 476 = .ok (.iconst 0, 1) := by decide +kernel
theorem dL_law_477 : decode cL_law 477 = .ok (.ireturn, 1) := by decide +kernel
theorem dL_law_478 : decode cL_law 478 = .ok (.aload_n 1, 1) := by decide +kernel
theorem dL_law_479 : decode cL_law 479 = .ok (.aload_n 0, 1) := by decide +kernel
theorem dL_law_480 : decode cL_law 480 = .ok (.iload_n 3, 1) := by decide +kernel
theorem dL_law_481 : decode cL_law 481 = .ok (.iconst 1, 1) := by decide +kernel
theorem dL_law_482 : decode cL_law 482 = .ok (.iadd, 1) := by decide +kernel
theorem dL_law_483 : decode cL_law 483 = .ok (.iaload, 1) := by decide +kernel
theorem dL_law_484 : decode cL_law 484 = .ok (.aload_n 0, 1) := by decide +kernel
theorem dL_law_485 : decode cL_law 485 = .ok (.iload_n 3, 1) := by decide +kernel
theorem dL_law_486 : decode cL_law 486 = .ok (.iconst 2, 1) := by decide +kernel
theorem dL_law_487 : decode cL_law 487 = .ok (.iadd, 1) := by decide +kernel
theorem dL_law_488 : decode cL_law 488 = .ok (.iaload, 1) := by decide +kernel
theorem dL_law_489 : decode cL_law 489 = .ok (.invokevirtual 59, 3) := by decide +kernel
theorem dL_law_492 : decode cL_law 492 = .ok (.aload_n 2, 1) := by decide +kernel
theorem dL_law_493 : decode cL_law 493 = .ok (.aload_n 0, 1) := by decide +kernel
theorem dL_law_494 : decode cL_law 494 = .ok (.iload_n 3, 1) := by decide +kernel
theorem dL_law_495 : decode cL_law 495 = .ok (.iconst 1, 1) := by decide +kernel
theorem dL_law_496 : decode cL_law 496 = .ok (.iadd, 1) := by decide +kernel
theorem dL_law_497 : decode cL_law 497 = .ok (.iaload, 1) := by decide +kernel
theorem dL_law_498 : decode cL_law 498 = .ok (.aload_n 0, 1) := by decide +kernel
theorem dL_law_499 : decode cL_law 499 = .ok (.iload_n 3, 1) := by decide +kernel
theorem dL_law_500 : decode cL_law 500 = .ok (.iconst 2, 1) := by decide +kernel
theorem dL_law_501 : decode cL_law 501 = .ok (.iadd, 1) := by decide +kernel
theorem dL_law_502 : decode cL_law 502 = .ok (.iaload, 1) := by decide +kernel
theorem dL_law_503 : decode cL_law 503 = .ok (.invokevirtual 62, 3) := by decide +kernel
theorem dL_law_506 : decode cL_law 506 = .ok (.if_icmp .eq 278, 3) := by decide +kernel
theorem dL_law_509 : decode cL_law 509 = .ok (.iconst 0, 1) := by decide +kernel
theorem dL_law_510 : decode cL_law 510 = .ok (.ireturn, 1) := by decide +kernel
theorem dL_law_511 : decode cL_law 511 = .ok (.aload_n 1, 1) := by decide +kernel
theorem dL_law_512 : decode cL_law 512 = .ok (.aload_n 0, 1) := by decide +kernel
theorem dL_law_513 : decode cL_law 513 = .ok (.iload_n 3, 1) := by decide +kernel
theorem dL_law_514 : decode cL_law 514 = .ok (.iconst 1, 1) := by decide +kernel
theorem dL_law_515 : decode cL_law 515 = .ok (.iadd, 1) := by decide +kernel
theorem dL_law_516 : decode cL_law 516 = .ok (.iaload, 1) := by decide +kernel
theorem dL_law_517 : decode cL_law 517 = .ok (.invokevirtual 63, 3) := by decide +kernel
theorem dL_law_520 : decode cL_law 520 = .ok (.aload_n 2, 1) := by decide +kernel
theorem dL_law_521 : decode cL_law 521 = .ok (.aload_n 0, 1) := by decide +kernel
theorem dL_law_522 : decode cL_law 522 = .ok (.iload_n 3, 1) := by decide +kernel
theorem dL_law_523 : decode cL_law 523 = .ok (.iconst 1, 1) := by decide +kernel
theorem dL_law_524 : decode cL_law 524 = .ok (.iadd, 1) := by decide +kernel
theorem dL_law_525 : decode cL_law 525 = .ok (.iaload, 1) := by decide +kernel
theorem dL_law_526 : decode cL_law 526 = .ok (.invokevirtual 66, 3) := by decide +kernel
theorem dL_law_529 : decode cL_law 529 = .ok (.if_icmp .eq 255, 3) := by decide +kernel
theorem dL_law_532 : decode cL_law 532 = .ok (.iconst 0, 1) := by decide +kernel
theorem dL_law_533 : decode cL_law 533 = .ok (.ireturn, 1) := by decide +kernel
theorem dL_law_534 : decode cL_law 534 = .ok (.aload_n 1, 1) := by decide +kernel
theorem dL_law_535 : decode cL_law 535 = .ok (.aload_n 0, 1) := by decide +kernel
theorem dL_law_536 : decode cL_law 536 = .ok (.iload_n 3, 1) := by decide +kernel
theorem dL_law_537 : decode cL_law 537 = .ok (.iconst 1, 1) := by decide +kernel
theorem dL_law_538 : decode cL_law 538 = .ok (.iadd, 1) := by decide +kernel
theorem dL_law_539 : decode cL_law 539 = .ok (.iaload, 1) := by decide +kernel
theorem dL_law_540 : decode cL_law 540 = .ok (.invokevirtual 67, 3) := by decide +kernel
theorem dL_law_543 : decode cL_law 543 = .ok (.aload_n 2, 1) := by decide +kernel
theorem dL_law_544 : decode cL_law 544 = .ok (.aload_n 0, 1) := by decide +kernel
theorem dL_law_545 : decode cL_law 545 = .ok (.iload_n 3, 1) := by decide +kernel
theorem dL_law_546 : decode cL_law 546 = .ok (.iconst 1, 1) := by decide +kernel
theorem dL_law_547 : decode cL_law 547 = .ok (.iadd, 1) := by decide +kernel
theorem dL_law_548 : decode cL_law 548 = .ok (.iaload, 1) := by decide +kernel
theorem dL_law_549 : decode cL_law 549 = .ok (.invokevirtual 70, 3) := by decide +kernel
theorem dL_law_552 : decode cL_law 552 = .ok (.if_icmp .eq 232, 3) := by decide +kernel
theorem dL_law_555 : decode cL_law 555 = .ok (.iconst 0, 1) := by decide +kernel
theorem dL_law_556 : decode cL_law 556 = .ok (.ireturn, 1) := by decide +kernel
theorem dL_law_557 : decode cL_law 557 = .ok (.aload_n 1, 1) := by decide +kernel
theorem dL_law_558 : decode cL_law 558 = .ok (.aload_n 0, 1) := by decide +kernel
theorem dL_law_559 : decode cL_law 559 = .ok (.iload_n 3, 1) := by decide +kernel
theorem dL_law_560 : decode cL_law 560 = .ok (.iconst 1, 1) := by decide +kernel
theorem dL_law_561 : decode cL_law 561 = .ok (.iadd, 1) := by decide +kernel
theorem dL_law_562 : decode cL_law 562 = .ok (.iaload, 1) := by decide +kernel
theorem dL_law_563 : decode cL_law 563 = .ok (.aload_n 0, 1) := by decide +kernel
theorem dL_law_564 : decode cL_law 564 = .ok (.iload_n 3, 1) := by decide +kernel
theorem dL_law_565 : decode cL_law 565 = .ok (.iconst 2, 1) := by decide +kernel
theorem dL_law_566 : decode cL_law 566 = .ok (.iadd, 1) := by decide +kernel
theorem dL_law_567 : decode cL_law 567 = .ok (.iaload, 1) := by decide +kernel
theorem dL_law_568 : decode cL_law 568 = .ok (.invokevirtual 71, 3) := by decide +kernel
theorem dL_law_571 : decode cL_law 571 = .ok (.aload_n 2, 1) := by decide +kernel
theorem dL_law_572 : decode cL_law 572 = .ok (.aload_n 0, 1) := by decide +kernel
theorem dL_law_573 : decode cL_law 573 = .ok (.iload_n 3, 1) := by decide +kernel
theorem dL_law_574 : decode cL_law 574 = .ok (.iconst 1, 1) := by decide +kernel
theorem dL_law_575 : decode cL_law 575 = .ok (.iadd, 1) := by decide +kernel
theorem dL_law_576 : decode cL_law 576 = .ok (.iaload, 1) := by decide +kernel
theorem dL_law_577 : decode cL_law 577 = .ok (.aload_n 0, 1) := by decide +kernel
theorem dL_law_578 : decode cL_law 578 = .ok (.iload_n 3, 1) := by decide +kernel
theorem dL_law_579 : decode cL_law 579 = .ok (.iconst 2, 1) := by decide +kernel
theorem dL_law_580 : decode cL_law 580 = .ok (.iadd, 1) := by decide +kernel
theorem dL_law_581 : decode cL_law 581 = .ok (.iaload, 1) := by decide +kernel
theorem dL_law_582 : decode cL_law 582 = .ok (.invokevirtual 74, 3) := by decide +kernel
theorem dL_law_585 : decode cL_law 585 = .ok (.if_icmp .eq 199, 3) := by decide +kernel
theorem dL_law_588 : decode cL_law 588 = .ok (.iconst 0, 1) := by decide +kernel
theorem dL_law_589 : decode cL_law 589 = .ok (.ireturn, 1) := by decide +kernel
theorem dL_law_590 : decode cL_law 590 = .ok (.aload_n 1, 1) := by decide +kernel
theorem dL_law_591 : decode cL_law 591 = .ok (.aload_n 0, 1) := by decide +kernel
theorem dL_law_592 : decode cL_law 592 = .ok (.iload_n 3, 1) := by decide +kernel
theorem dL_law_593 : decode cL_law 593 = .ok (.iconst 1, 1) := by decide +kernel
theorem dL_law_594 : decode cL_law 594 = .ok (.iadd, 1) := by decide +kernel
theorem dL_law_595 : decode cL_law 595 = .ok (.iaload, 1) := by decide +kernel
theorem dL_law_596 : decode cL_law 596 = .ok (.invokevirtual 75, 3) := by decide +kernel
theorem dL_law_599 : decode cL_law 599 = .ok (.aload_n 2, 1) := by decide +kernel
theorem dL_law_600 : decode cL_law 600 = .ok (.aload_n 0, 1) := by decide +kernel
theorem dL_law_601 : decode cL_law 601 = .ok (.iload_n 3, 1) := by decide +kernel
theorem dL_law_602 : decode cL_law 602 = .ok (.iconst 1, 1) := by decide +kernel
theorem dL_law_603 : decode cL_law 603 = .ok (.iadd, 1) := by decide +kernel
theorem dL_law_604 : decode cL_law 604 = .ok (.iaload, 1) := by decide +kernel
theorem dL_law_605 : decode cL_law 605 = .ok (.invokevirtual 78, 3) := by decide +kernel
theorem dL_law_608 : decode cL_law 608 = .ok (.if_icmp .eq 176, 3) := by decide +kernel
theorem dL_law_611 : decode cL_law 611 = .ok (.iconst 0, 1) := by decide +kernel
theorem dL_law_612 : decode cL_law 612 = .ok (.ireturn, 1) := by decide +kernel
theorem dL_law_613 : decode cL_law 613 = .ok (.aload_n 1, 1) := by decide +kernel
theorem dL_law_614 : decode cL_law 614 = .ok (.aload_n 0, 1) := by decide +kernel
theorem dL_law_615 : decode cL_law 615 = .ok (.iload_n 3, 1) := by decide +kernel
theorem dL_law_616 : decode cL_law 616 = .ok (.iconst 1, 1) := by decide +kernel
theorem dL_law_617 : decode cL_law 617 = .ok (.iadd, 1) := by decide +kernel
theorem dL_law_618 : decode cL_law 618 = .ok (.iaload, 1) := by decide +kernel
theorem dL_law_619 : decode cL_law 619 = .ok (.aload_n 0, 1) := by decide +kernel
theorem dL_law_620 : decode cL_law 620 = .ok (.iload_n 3, 1) := by decide +kernel
theorem dL_law_621 : decode cL_law 621 = .ok (.iconst 2, 1) := by decide +kernel
theorem dL_law_622 : decode cL_law 622 = .ok (.iadd, 1) := by decide +kernel
theorem dL_law_623 : decode cL_law 623 = .ok (.iaload, 1) := by decide +kernel
theorem dL_law_624 : decode cL_law 624 = .ok (.invokevirtual 79, 3) := by decide +kernel
theorem dL_law_627 : decode cL_law 627 = .ok (.aload_n 2, 1) := by decide +kernel
theorem dL_law_628 : decode cL_law 628 = .ok (.aload_n 0, 1) := by decide +kernel
theorem dL_law_629 : decode cL_law 629 = .ok (.iload_n 3, 1) := by decide +kernel
theorem dL_law_630 : decode cL_law 630 = .ok (.iconst 1, 1) := by decide +kernel
theorem dL_law_631 : decode cL_law 631 = .ok (.iadd, 1) := by decide +kernel
theorem dL_law_632 : decode cL_law 632 = .ok (.iaload, 1) := by decide +kernel
theorem dL_law_633 : decode cL_law 633 = .ok (.aload_n 0, 1) := by decide +kernel
theorem dL_law_634 : decode cL_law 634 = .ok (.iload_n 3, 1) := by decide +kernel
theorem dL_law_635 : decode cL_law 635 = .ok (.iconst 2, 1) := by decide +kernel
theorem dL_law_636 : decode cL_law 636 = .ok (.iadd, 1) := by decide +kernel
theorem dL_law_637 : decode cL_law 637 = .ok (.iaload, 1) := by decide +kernel
theorem dL_law_638 : decode cL_law 638 = .ok (.invokevirtual 82, 3) := by decide +kernel
theorem dL_law_641 : decode cL_law 641 = .ok (.if_icmp .eq 143, 3) := by decide +kernel
theorem dL_law_644 : decode cL_law 644 = .ok (.iconst 0, 1) := by decide +kernel
theorem dL_law_645 : decode cL_law 645 = .ok (.ireturn, 1) := by decide +kernel
theorem dL_law_646 : decode cL_law 646 = .ok (.aload_n 1, 1) := by decide +kernel
theorem dL_law_647 : decode cL_law 647 = .ok (.aload_n 0, 1) := by decide +kernel
theorem dL_law_648 : decode cL_law 648 = .ok (.iload_n 3, 1) := by decide +kernel
theorem dL_law_649 : decode cL_law 649 = .ok (.iconst 1, 1) := by decide +kernel
theorem dL_law_650 : decode cL_law 650 = .ok (.iadd, 1) := by decide +kernel
theorem dL_law_651 : decode cL_law 651 = .ok (.iaload, 1) := by decide +kernel
theorem dL_law_652 : decode cL_law 652 = .ok (.i2l, 1) := by decide +kernel
theorem dL_law_653 : decode cL_law 653 = .ok (.bipush 32, 2) := by decide +kernel
theorem dL_law_655 : decode cL_law 655 = .ok (.lshl, 1) := by decide +kernel
theorem dL_law_656 : decode cL_law 656 = .ok (.aload_n 0, 1) := by decide +kernel
theorem dL_law_657 : decode cL_law 657 = .ok (.iload_n 3, 1) := by decide +kernel
theorem dL_law_658 : decode cL_law 658 = .ok (.iconst 2, 1) := by decide +kernel
theorem dL_law_659 : decode cL_law 659 = .ok (.iadd, 1) := by decide +kernel
theorem dL_law_660 : decode cL_law 660 = .ok (.iaload, 1) := by decide +kernel
theorem dL_law_661 : decode cL_law 661 = .ok (.i2l, 1) := by decide +kernel
theorem dL_law_662 : decode cL_law 662 = .ok (.ldc2_w 83, 3) := by decide +kernel
theorem dL_law_665 : decode cL_law 665 = .ok (.land, 1) := by decide +kernel
theorem dL_law_666 : decode cL_law 666 = .ok (.lor, 1) := by decide +kernel
theorem dL_law_667 : decode cL_law 667 = .ok (.invokevirtual 85, 3) := by decide +kernel
theorem dL_law_670 : decode cL_law 670 = .ok (.aload_n 2, 1) := by decide +kernel
theorem dL_law_671 : decode cL_law 671 = .ok (.aload_n 0, 1) := by decide +kernel
theorem dL_law_672 : decode cL_law 672 = .ok (.iload_n 3, 1) := by decide +kernel
theorem dL_law_673 : decode cL_law 673 = .ok (.iconst 1, 1) := by decide +kernel
theorem dL_law_674 : decode cL_law 674 = .ok (.iadd, 1) := by decide +kernel
theorem dL_law_675 : decode cL_law 675 = .ok (.iaload, 1) := by decide +kernel
theorem dL_law_676 : decode cL_law 676 = .ok (.i2l, 1) := by decide +kernel
theorem dL_law_677 : decode cL_law 677 = .ok (.bipush 32, 2) := by decide +kernel
theorem dL_law_679 : decode cL_law 679 = .ok (.lshl, 1) := by decide +kernel
theorem dL_law_680 : decode cL_law 680 = .ok (.aload_n 0, 1) := by decide +kernel
theorem dL_law_681 : decode cL_law 681 = .ok (.iload_n 3, 1) := by decide +kernel
theorem dL_law_682 : decode cL_law 682 = .ok (.iconst 2, 1) := by decide +kernel
theorem dL_law_683 : decode cL_law 683 = .ok (.iadd, 1) := by decide +kernel
theorem dL_law_684 : decode cL_law 684 = .ok (.iaload, 1) := by decide +kernel
theorem dL_law_685 : decode cL_law 685 = .ok (.i2l, 1) := by decide +kernel
theorem dL_law_686 : decode cL_law 686 = .ok (.ldc2_w 83, 3) := by decide +kernel
theorem dL_law_689 : decode cL_law 689 = .ok (.land, 1) := by decide +kernel
theorem dL_law_690 : decode cL_law 690 = .ok (.lor, 1) := by decide +kernel
theorem dL_law_691 : decode cL_law 691 = .ok (.invokevirtual 89, 3) := by decide +kernel
theorem dL_law_694 : decode cL_law 694 = .ok (.if_icmp .eq 90, 3) := by decide +kernel
theorem dL_law_697 : decode cL_law 697 = .ok (.iconst 0, 1) := by decide +kernel
theorem dL_law_698 : decode cL_law 698 = .ok (.ireturn, 1) := by decide +kernel
theorem dL_law_699 : decode cL_law 699 = .ok (.aload_n 1, 1) := by decide +kernel
theorem dL_law_700 : decode cL_law 700 = .ok (.invokevirtual 90, 3) := by decide +kernel
theorem dL_law_703 : decode cL_law 703 = .ok (.aload_n 2, 1) := by decide +kernel
theorem dL_law_704 : decode cL_law 704 = .ok (.invokevirtual 93, 3) := by decide +kernel
theorem dL_law_707 : decode cL_law 707 = .ok (.if_icmp .eq 77, 3) := by decide +kernel
theorem dL_law_710 : decode cL_law 710 = .ok (.iconst 0, 1) := by decide +kernel
theorem dL_law_711 : decode cL_law 711 = .ok (.ireturn, 1) := by decide +kernel
theorem dL_law_712 : decode cL_law 712 = .ok (.aload_n 1, 1) := by decide +kernel
theorem dL_law_713 : decode cL_law 713 = .ok (.invokevirtual 94, 3) := by decide +kernel
theorem dL_law_716 : decode cL_law 716 = .ok (.aload_n 2, 1) := by decide +kernel
theorem dL_law_717 : decode cL_law 717 = .ok (.invokevirtual 97, 3) := by decide +kernel
theorem dL_law_720 : decode cL_law 720 = .ok (.if_icmp .eq 64, 3) := by decide +kernel
theorem dL_law_723 : decode cL_law 723 = .ok (.iconst 0, 1) := by decide +kernel
theorem dL_law_724 : decode cL_law 724 = .ok (.ireturn, 1) := by decide +kernel
theorem dL_law_725 : decode cL_law 725 = .ok (.aload_n 1, 1) := by decide +kernel
theorem dL_law_726 : decode cL_law 726 = .ok (.invokevirtual 98, 3) := by decide +kernel
theorem dL_law_729 : decode cL_law 729 = .ok (.aload_n 2, 1) := by decide +kernel
theorem dL_law_730 : decode cL_law 730 = .ok (.invokevirtual 101, 3) := by decide +kernel
theorem dL_law_733 : decode cL_law 733 = .ok (.if_icmp .eq 51, 3) := by decide +kernel
theorem dL_law_736 : decode cL_law 736 = .ok (.iconst 0, 1) := by decide +kernel
theorem dL_law_737 : decode cL_law 737 = .ok (.ireturn, 1) := by decide +kernel
theorem dL_law_738 : decode cL_law 738 = .ok (.aload_n 1, 1) := by decide +kernel
theorem dL_law_739 : decode cL_law 739 = .ok (.aload_n 0, 1) := by decide +kernel
theorem dL_law_740 : decode cL_law 740 = .ok (.iload_n 3, 1) := by decide +kernel
theorem dL_law_741 : decode cL_law 741 = .ok (.iconst 1, 1) := by decide +kernel
theorem dL_law_742 : decode cL_law 742 = .ok (.iadd, 1) := by decide +kernel
theorem dL_law_743 : decode cL_law 743 = .ok (.iaload, 1) := by decide +kernel
theorem dL_law_744 : decode cL_law 744 = .ok (.invokevirtual 102, 3) := by decide +kernel
theorem dL_law_747 : decode cL_law 747 = .ok (.aload_n 2, 1) := by decide +kernel
theorem dL_law_748 : decode cL_law 748 = .ok (.aload_n 0, 1) := by decide +kernel
theorem dL_law_749 : decode cL_law 749 = .ok (.iload_n 3, 1) := by decide +kernel
theorem dL_law_750 : decode cL_law 750 = .ok (.iconst 1, 1) := by decide +kernel
theorem dL_law_751 : decode cL_law 751 = .ok (.iadd, 1) := by decide +kernel
theorem dL_law_752 : decode cL_law 752 = .ok (.iaload, 1) := by decide +kernel
theorem dL_law_753 : decode cL_law 753 = .ok (.invokevirtual 105, 3) := by decide +kernel
theorem dL_law_756 : decode cL_law 756 = .ok (.if_icmp .eq 28, 3) := by decide +kernel
theorem dL_law_759 : decode cL_law 759 = .ok (.iconst 0, 1) := by decide +kernel
theorem dL_law_760 : decode cL_law 760 = .ok (.ireturn, 1) := by decide +kernel
theorem dL_law_761 : decode cL_law 761 = .ok (.aload_n 1, 1) := by decide +kernel
theorem dL_law_762 : decode cL_law 762 = .ok (.aload_n 0, 1) := by decide +kernel
theorem dL_law_763 : decode cL_law 763 = .ok (.iload_n 3, 1) := by decide +kernel
theorem dL_law_764 : decode cL_law 764 = .ok (.iconst 1, 1) := by decide +kernel
theorem dL_law_765 : decode cL_law 765 = .ok (.iadd, 1) := by decide +kernel
theorem dL_law_766 : decode cL_law 766 = .ok (.iaload, 1) := by decide +kernel
theorem dL_law_767 : decode cL_law 767 = .ok (.invokevirtual 106, 3) := by decide +kernel
theorem dL_law_770 : decode cL_law 770 = .ok (.aload_n 2, 1) := by decide +kernel
theorem dL_law_771 : decode cL_law 771 = .ok (.aload_n 0, 1) := by decide +kernel
theorem dL_law_772 : decode cL_law 772 = .ok (.iload_n 3, 1) := by decide +kernel
theorem dL_law_773 : decode cL_law 773 = .ok (.iconst 1, 1) := by decide +kernel
theorem dL_law_774 : decode cL_law 774 = .ok (.iadd, 1) := by decide +kernel
theorem dL_law_775 : decode cL_law 775 = .ok (.iaload, 1) := by decide +kernel
theorem dL_law_776 : decode cL_law 776 = .ok (.invokevirtual 109, 3) := by decide +kernel
theorem dL_law_779 : decode cL_law 779 = .ok (.if_icmp .eq 5, 3) := by decide +kernel
theorem dL_law_782 : decode cL_law 782 = .ok (.iconst 0, 1) := by decide +kernel
theorem dL_law_783 : decode cL_law 783 = .ok (.ireturn, 1) := by decide +kernel
theorem dL_law_784 : decode cL_law 784 = .ok (.iinc 3 4, 3) := by decide +kernel
theorem dL_law_787 : decode cL_law 787 = .ok (.goto (-769), 3) := by decide +kernel
theorem dL_law_790 : decode cL_law 790 = .ok (.iconst 1, 1) := by decide +kernel
theorem dL_law_791 : decode cL_law 791 = .ok (.ireturn, 1) := by decide +kernel
