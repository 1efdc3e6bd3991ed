theorem dM_init_0 : decode bM_init 0 = .ok (.aload_n 0, 1) := by decide +kernel
theorem dM_init_1 : decode bM_init 1 = .ok (.invokespecial 1, 3) := by decide +kernel
theorem dM_init_4 : decode bM_init 4 = .ok (.aload_n 0, 1) := by decide +kernel
theorem dM_init_5 : decode bM_init 5 = .ok (.bipush 8, 2) := by decide +kernel
theorem dM_init_7 : decode bM_init 7 = .ok (.newarray .int, 2) := by decide +kernel
theorem dM_init_9 : decode bM_init 9 = .ok (.putfield 7, 3) := by decide +kernel
theorem dM_init_12 : decode bM_init 12 = .ok (.aload_n 0, 1) := by decide +kernel
theorem dM_init_13 : decode bM_init 13 = .ok (.bipush 8, 2) := by decide +kernel
theorem dM_init_15 : decode bM_init 15 = .ok (.newarray .int, 2) := by decide +kernel
theorem dM_init_17 : decode bM_init 17 = .ok (.putfield 13, 3) := by decide +kernel
theorem dM_init_20 : decode bM_init 20 = .ok (.aload_n 0, 1) := by decide +kernel
theorem dM_init_21 : decode bM_init 21 = .ok (.bipush 8, 2) := by decide +kernel
theorem dM_init_23 : decode bM_init 23 = .ok (.newarray .int, 2) := by decide +kernel
theorem dM_init_25 : decode bM_init 25 = .ok (.putfield 16, 3) := by decide +kernel
theorem dM_init_28 : decode bM_init 28 = .ok (.aload_n 0, 1) := by decide +kernel
theorem dM_init_29 : decode bM_init 29 = .ok (.bipush 8, 2) := by decide +kernel
theorem dM_init_31 : decode bM_init 31 = .ok (.newarray .int, 2) := by decide +kernel
theorem dM_init_33 : decode bM_init 33 = .ok (.putfield 19, 3) := by decide +kernel
theorem dM_init_36 : decode bM_init 36 = .ok (.aload_n 0, 1) := by decide +kernel
theorem dM_init_37 : decode bM_init 37 = .ok (.bipush 8, 2) := by decide +kernel
theorem dM_init_39 : decode bM_init 39 = .ok (.newarray .int, 2) := by decide +kernel
theorem dM_init_41 : decode bM_init 41 = .ok (.putfield 22, 3) := by decide +kernel
theorem dM_init_44 : decode bM_init 44 = .ok (.aload_n 0, 1) := by decide +kernel
theorem dM_init_45 : decode bM_init 45 = .ok (.bipush 8, 2) := by decide +kernel
theorem dM_init_47 : decode bM_init 47 = .ok (.newarray .int, 2) := by decide +kernel
theorem dM_init_49 : decode bM_init 49 = .ok (.putfield 25, 3) := by decide +kernel
theorem dM_init_52 : decode bM_init 52 = .ok (.aload_n 0, 1) := by decide +kernel
theorem dM_init_53 : decode bM_init 53 = .ok (.bipush 16, 2) := by decide +kernel
theorem dM_init_55 : decode bM_init 55 = .ok (.newarray .int, 2) := by decide +kernel
theorem dM_init_57 : decode bM_init 57 = .ok (.putfield 28, 3) := by decide +kernel
theorem dM_init_60 : decode bM_init 60 = .ok (.aload_n 0, 1) := by decide +kernel
theorem dM_init_61 : decode bM_init 61 = .ok (.bipush 16, 2) := by decide +kernel
theorem dM_init_63 : decode bM_init 63 = .ok (.newarray .int, 2) := by decide +kernel
theorem dM_init_65 : decode bM_init 65 = .ok (.putfield 31, 3) := by decide +kernel
theorem dM_init_68 : decode bM_init 68 = .ok (.aload_n 0, 1) := by decide +kernel
theorem dM_init_69 : decode bM_init 69 = .ok (.bipush 16, 2) := by decide +kernel
theorem dM_init_71 : decode bM_init 71 = .ok (.newarray .int, 2) := by decide +kernel
theorem dM_init_73 : decode bM_init 73 = .ok (.putfield 34, 3) := by decide +kernel
theorem dM_init_76 : decode bM_init 76 = .ok (.aload_n 0, 1) := by decide +kernel
theorem dM_init_77 : decode bM_init 77 = .ok (.bipush 16, 2) := by decide +kernel
theorem dM_init_79 : decode bM_init 79 = .ok (.newarray .int, 2) := by decide +kernel
theorem dM_init_81 : decode bM_init 81 = .ok (.putfield 37, 3) := by decide +kernel
theorem dM_init_84 : decode bM_init 84 = .ok (.aload_n 0, 1) := by decide +kernel
theorem dM_init_85 : decode bM_init 85 = .ok (.bipush 16, 2) := by decide +kernel
theorem dM_init_87 : decode bM_init 87 = .ok (.newarray .long, 2) := by decide +kernel
theorem dM_init_89 : decode bM_init 89 = .ok (.putfield 40, 3) := by decide +kernel
theorem dM_init_92 : decode bM_init 92 = .ok (.aload_n 0, 1) := by decide +kernel
theorem dM_init_93 : decode bM_init 93 = .ok (.bipush 16, 2) := by decide +kernel
theorem dM_init_95 : decode bM_init 95 = .ok (.newarray .int, 2) := by decide +kernel
theorem dM_init_97 : decode bM_init 97 = .ok (.putfield 44, 3) := by decide +kernel
theorem dM_init_100 : decode bM_init 100 = .ok (.aload_n 0, 1) := by decide +kernel
theorem dM_init_101 : decode bM_init 101 = .ok (.bipush 16, 2) := by decide +kernel
theorem dM_init_103 : decode bM_init 103 = .ok (.newarray .int, 2) := by decide +kernel
theorem dM_init_105 : decode bM_init 105 = .ok (.putfield 47, 3) := by decide +kernel
theorem dM_init_108 : decode bM_init 108 = .ok (.aload_n 0, 1) := by decide +kernel
theorem dM_init_109 : decode bM_init 109 = .ok (.bipush 16, 2) := by decide +kernel
theorem dM_init_111 : decode bM_init 111 = .ok (.newarray .boolean, 2) := by decide +kernel
theorem dM_init_113 : decode bM_init 113 = .ok (.putfield 50, 3) := by decide +kernel
theorem dM_init_116 : decode bM_init 116 = .ok (.aload_n 0, 1) := by decide +kernel
theorem dM_init_117 : decode bM_init 117 = .ok (.bipush 24, 2) := by decide +kernel
theorem dM_init_119 : decode bM_init 119 = .ok (.newarray .int, 2) := by decide +kernel
theorem dM_init_121 : decode bM_init 121 = .ok (.putfield 54, 3) := by decide +kernel
theorem dM_init_124 : decode bM_init 124 = .ok (.aload_n 0, 1) := by decide +kernel
theorem dM_init_125 : decode bM_init 125 = .ok (.bipush 16, 2) := by decide +kernel
theorem dM_init_127 : decode bM_init 127 = .ok (.newarray .int, 2) := by decide +kernel
theorem dM_init_129 : decode bM_init 129 = .ok (.putfield 57, 3) := by decide +kernel
theorem dM_init_132 : decode bM_init 132 = .ok (.aload_n 0, 1) := by decide +kernel
theorem dM_init_133 : decode bM_init 133 = .ok (.bipush 10, 2) := by decide +kernel
theorem dM_init_135 : decode bM_init 135 = .ok (.newarray .int, 2) := by decide +kernel
theorem dM_init_137 : decode bM_init 137 = .ok (.putfield 60, 3) := by decide +kernel
theorem dM_init_140 : decode bM_init 140 = .ok (.aload_n 0, 1) := by decide +kernel
theorem dM_init_141 : decode bM_init 141 = .ok (.bipush 10, 2) := by decide +kernel
theorem dM_init_143 : decode bM_init 143 = .ok (.newarray .int, 2) := by decide +kernel
theorem dM_init_145 : decode bM_init 145 = .ok (.putfield 63, 3) := by decide +kernel
theorem dM_init_148 : decode bM_init 148 = .ok (.aload_n 0, 1) := by decide +kernel
theorem dM_init_149 : decode bM_init 149 = .ok (.bipush 8, 2) := by decide +kernel
theorem dM_init_151 : decode bM_init 151 = .ok (.newarray .boolean, 2) := by decide +kernel
theorem dM_init_153 : decode bM_init 153 = .ok (.putfield 66, 3) := by decide +kernel
theorem dM_init_156 : decode bM_init 156 = .ok (.aload_n 0, 1) := by decide +kernel
theorem dM_init_157 : decode bM_init 157 = .ok (.iconst 5, 1) := by decide +kernel
theorem dM_init_158 : decode bM_init 158 = .ok (.newarray .int, 2) := by decide +kernel
theorem dM_init_160 : decode bM_init 160 = .ok (.putfield 69, 3) := by decide +kernel
theorem dM_init_163 : decode bM_init 163 = .ok (.aload_n 0, 1) := by decide +kernel
theorem dM_init_164 : decode bM_init 164 = .ok (.bipush 80, 2) := by decide +kernel
theorem dM_init_166 : decode bM_init 166 = .ok (.newarray .int, 2) := by decide +kernel
theorem dM_init_168 : decode bM_init 168 = .ok (.putfield 72, 3) := by decide +kernel
theorem dM_init_171 : decode bM_init 171 = .ok (.aload_n 0, 1) := by decide +kernel
theorem dM_init_172 : decode bM_init 172 = .ok (.iconst 5, 1) := by decide +kernel
theorem dM_init_173 : decode bM_init 173 = .ok (.newarray .int, 2) := by decide +kernel
theorem dM_init_175 : decode bM_init 175 = .ok (.putfield 75, 3) := by decide +kernel
theorem dM_init_178 : decode bM_init 178 = .ok (.aload_n 0, 1) := by decide +kernel
theorem dM_init_179 : decode bM_init 179 = .ok (.iconst 5, 1) := by decide +kernel
theorem dM_init_180 : decode bM_init 180 = .ok (.newarray .int, 2) := by decide +kernel
theorem dM_init_182 : decode bM_init 182 = .ok (.putfield 78, 3) := by decide +kernel
theorem dM_init_185 : decode bM_init 185 = .ok (.return_, 1) := by decide +kernel
theorem dM_install_0 : decode bM_install 0 = .ok (.iload_n 1, 1) := by decide +kernel
theorem dM_install_1 : decode bM_install 1 = .ok (.iconst 0, 1) := by decide +kernel
theorem dM_install_2 : decode bM_install 2 = .ok (.bipush 7, 2) := by decide +kernel
theorem dM_install_4 : decode bM_install 4 = .ok (.invokestatic 81, 3) := by decide +kernel
theorem dM_install_7 : decode bM_install 7 = .ok (.ifCond .eq 12, 3) := by decide +kernel
theorem dM_install_10 : decode bM_install 10 = .ok (.aload_n 0, 1) := by decide +kernel
theorem dM_install_11 : decode bM_install 11 = .ok (.getfield 7, 3) := by decide +kernel
theorem dM_install_14 : decode bM_install 14 = .ok (.iload_n 1, 1) := by decide +kernel
theorem dM_install_15 : decode bM_install 15 = .ok (.iaload, 1) := by decide +kernel
theorem dM_install_16 : decode bM_install 16 = .ok (.ifCond .eq 5, 3) := by decide +kernel
theorem dM_install_19 : decode bM_install 19 = .ok (.iconst (-1), 1) := by decide +kernel
theorem dM_install_20 : decode bM_install 20 = .ok (.ireturn, 1) := by decide +kernel
theorem dM_install_21 : decode bM_install 21 = .ok (.aload_n 0, 1) := by decide +kernel
theorem dM_install_22 : decode bM_install 22 = .ok (.getfield 7, 3) := by decide +kernel
theorem dM_install_25 : decode bM_install 25 = .ok (.iload_n 1, 1) := by decide +kernel
theorem dM_install_26 : decode bM_install 26 = .ok (.iconst 1, 1) := by decide +kernel
theorem dM_install_27 : decode bM_install 27 = .ok (.iastore, 1) := by decide +kernel
theorem dM_install_28 : decode bM_install 28 = .ok (.iconst 0, 1) := by decide +kernel
theorem dM_install_29 : decode bM_install 29 = .ok (.ireturn, 1) := by decide +kernel
theorem dM_in_0 : decode bM_in 0 = .ok (.iload_n 0, 1) := by decide +kernel
theorem dM_in_1 : decode bM_in 1 = .ok (.iload_n 1, 1) := by decide +kernel
theorem dM_in_2 : decode bM_in 2 = .ok (.if_icmp .lt 12, 3) := by decide +kernel
theorem dM_in_5 : decode bM_in 5 = .ok (.iload_n 0, 1) := by decide +kernel
theorem dM_in_6 : decode bM_in 6 = .ok (.iload_n 2, 1) := by decide +kernel
theorem dM_in_7 : decode bM_in 7 = .ok (.if_icmp .gt 7, 3) := by decide +kernel
theorem dM_in_10 : decode bM_in 10 = .ok (.iconst 1, 1) := by decide +kernel
theorem dM_in_11 : decode bM_in 11 = .ok (.goto 4, 3) := by decide +kernel
theorem dM_in_14 : decode bM_in 14 = .ok (.iconst 0, 1) := by decide +kernel
theorem dM_in_15 : decode bM_in 15 = .ok (.ireturn, 1) := by decide +kernel
theorem dM_uninstall_0 : decode bM_uninstall 0 = .ok (.iload_n 1, 1) := by decide +kernel
theorem dM_uninstall_1 : decode bM_uninstall 1 = .ok (.iconst 0, 1) := by decide +kernel
theorem dM_uninstall_2 : decode bM_uninstall 2 = .ok (.bipush 7, 2) := by decide +kernel
theorem dM_uninstall_4 : decode bM_uninstall 4 = .ok (.invokestatic 81, 3) := by decide +kernel
theorem dM_uninstall_7 : decode bM_uninstall 7 = .ok (.ifCond .eq 13, 3) := by decide +kernel
theorem dM_uninstall_10 : decode bM_uninstall 10 = .ok (.aload_n 0, 1) := by decide +kernel
theorem dM_uninstall_11 : decode bM_uninstall 11 = .ok (.getfield 7, 3) := by decide +kernel
theorem dM_uninstall_14 : decode bM_uninstall 14 = .ok (.iload_n 1, 1) := by decide +kernel
theorem dM_uninstall_15 : decode bM_uninstall 15 = .ok (.iaload, 1) := by decide +kernel
theorem dM_uninstall_16 : decode bM_uninstall 16 = .ok (.iconst 1, 1) := by decide +kernel
theorem dM_uninstall_17 : decode bM_uninstall 17 = .ok (.if_icmp .eq 5, 3) := by decide +kernel
theorem dM_uninstall_20 : decode bM_uninstall 20 = .ok (.iconst (-1), 1) := by decide +kernel
theorem dM_uninstall_21 : decode bM_uninstall 21 = .ok (.ireturn, 1) := by decide +kernel
theorem dM_uninstall_22 : decode bM_uninstall 22 = .ok (.aload_n 0, 1) := by decide +kernel
theorem dM_uninstall_23 : decode bM_uninstall 23 = .ok (.getfield 7, 3) := by decide +kernel
theorem dM_uninstall_26 : decode bM_uninstall 26 = .ok (.iload_n 1, 1) := by decide +kernel
theorem dM_uninstall_27 : decode bM_uninstall 27 = .ok (.iconst 0, 1) := by decide +kernel
theorem dM_uninstall_28 : decode bM_uninstall 28 = .ok (.iastore, 1) := by decide +kernel
theorem dM_uninstall_29 : decode bM_uninstall 29 = .ok (.aload_n 0, 1) := by decide +kernel
theorem dM_uninstall_30 : decode bM_uninstall 30 = .ok (.getfield 13, 3) := by decide +kernel
theorem dM_uninstall_33 : decode bM_uninstall 33 = .ok (.iload_n 1, 1) := by decide +kernel
theorem dM_uninstall_34 : decode bM_uninstall 34 = .ok (.iconst 0, 1) := by decide +kernel
theorem dM_uninstall_35 : decode bM_uninstall 35 = .ok (.iastore, 1) := by decide +kernel
theorem dM_uninstall_36 : decode bM_uninstall 36 = .ok (.aload_n 0, 1) := by decide +kernel
theorem dM_uninstall_37 : decode bM_uninstall 37 = .ok (.getfield 16, 3) := by decide +kernel
theorem dM_uninstall_40 : decode bM_uninstall 40 = .ok (.iload_n 1, 1) := by decide +kernel
theorem dM_uninstall_41 : decode bM_uninstall 41 = .ok (.iconst 0, 1) := by decide +kernel
theorem dM_uninstall_42 : decode bM_uninstall 42 = .ok (.iastore, 1) := by decide +kernel
theorem dM_uninstall_43 : decode bM_uninstall 43 = .ok (.aload_n 0, 1) := by decide +kernel
theorem dM_uninstall_44 : decode bM_uninstall 44 = .ok (.getfield 19, 3) := by decide +kernel
theorem dM_uninstall_47 : decode bM_uninstall 47 = .ok (.iload_n 1, 1) := by decide +kernel
theorem dM_uninstall_48 : decode bM_uninstall 48 = .ok (.iconst 0, 1) := by decide +kernel
theorem dM_uninstall_49 : decode bM_uninstall 49 = .ok (.iastore, 1) := by decide +kernel
theorem dM_uninstall_50 : decode bM_uninstall 50 = .ok (.iconst 0, 1) := by decide +kernel
theorem dM_uninstall_51 : decode bM_uninstall 51 = .ok (.istore_n 2, 1) := by decide +kernel
theorem dM_uninstall_52 : decode bM_uninstall 52 = .ok (.iload_n 2, 1) := by decide +kernel
theorem dM_uninstall_53 : decode bM_uninstall 53 = .ok (.aload_n 0, 1) := by decide +kernel
theorem dM_uninstall_54 : decode bM_uninstall 54 = .ok (.getfield 85, 3) := by decide +kernel
theorem dM_uninstall_57 : decode bM_uninstall 57 = .ok (.if_icmp .ge 26, 3) := by decide +kernel
theorem dM_uninstall_60 : decode bM_uninstall 60 = .ok (.aload_n 0, 1) := by decide +kernel
theorem dM_uninstall_61 : decode bM_uninstall 61 = .ok (.getfield 28, 3) := by decide +kernel
theorem dM_uninstall_64 : decode bM_uninstall 64 = .ok (.iload_n 2, 1) := by decide +kernel
theorem dM_uninstall_65 : decode bM_uninstall 65 = .ok (.iaload, 1) := by decide +kernel
theorem dM_uninstall_66 : decode bM_uninstall 66 = .ok (.iload_n 1, 1) := by decide +kernel
theorem dM_uninstall_67 : decode bM_uninstall 67 = .ok (.if_icmp .ne 10, 3) := by decide +kernel
theorem dM_uninstall_70 : decode bM_uninstall 70 = .ok (.aload_n 0, 1) := by decide +kernel
theorem dM_uninstall_71 : decode bM_uninstall 71 = .ok (.getfield 28, 3) := by decide +kernel
theorem dM_uninstall_74 : decode bM_uninstall 74 = .ok (.iload_n 2, 1) := by decide +kernel
theorem dM_uninstall_75 : decode bM_uninstall 75 = .ok (.iconst (-1), 1) := by decide +kernel
theorem dM_uninstall_76 : decode bM_uninstall 76 = .ok (.iastore, 1) := by decide +kernel
theorem dM_uninstall_77 : decode bM_uninstall 77 = .ok (.iinc 2 1, 3) := by decide +kernel
theorem dM_uninstall_80 : decode bM_uninstall 80 = .ok (.goto (-28), 3) := by decide +kernel
theorem dM_uninstall_83 : decode bM_uninstall 83 = .ok (.iconst 0, 1) := by decide +kernel
theorem dM_uninstall_84 : decode bM_uninstall 84 = .ok (.ireturn, 1) := by decide +kernel
theorem dM_need_0 : decode bM_need 0 = .ok (.aload_n 0, 1) := by decide +kernel
theorem dM_need_1 : decode bM_need 1 = .ok (.iload_n 1, 1) := by decide +kernel
theorem dM_need_2 : decode bM_need 2 = .ok (.invokevirtual 92, 3) := by decide +kernel
theorem dM_need_5 : decode bM_need 5 = .ok (.ifCond .ne 38, 3) := by decide +kernel
theorem dM_need_8 : decode bM_need 8 = .ok (.iload_n 2, 1) := by decide +kernel
theorem dM_need_9 : decode bM_need 9 = .ok (.iconst 0, 1) := by decide +kernel
theorem dM_need_10 : decode bM_need 10 = .ok (.bipush 7, 2) := by decide +kernel
theorem dM_need_12 : decode bM_need 12 = .ok (.invokestatic 81, 3) := by decide +kernel
theorem dM_need_15 : decode bM_need 15 = .ok (.ifCond .eq 28, 3) := by decide +kernel
theorem dM_need_18 : decode bM_need 18 = .ok (.iload_n 2, 1) := by decide +kernel
theorem dM_need_19 : decode bM_need 19 = .ok (.iload_n 1, 1) := by decide +kernel
theorem dM_need_20 : decode bM_need 20 = .ok (.if_icmp .eq 23, 3) := by decide +kernel
theorem dM_need_23 : decode bM_need 23 = .ok (.aload_n 0, 1) := by decide +kernel
theorem dM_need_24 : decode bM_need 24 = .ok (.getfield 13, 3) := by decide +kernel
theorem dM_need_27 : decode bM_need 27 = .ok (.iload_n 1, 1) := by decide +kernel
theorem dM_need_28 : decode bM_need 28 = .ok (.iaload, 1) := by decide +kernel
theorem dM_need_29 : decode bM_need 29 = .ok (.aload_n 0, 1) := by decide +kernel
theorem dM_need_30 : decode bM_need 30 = .ok (.getfield 16, 3) := by decide +kernel
theorem dM_need_33 : decode bM_need 33 = .ok (.iload_n 1, 1) := by decide +kernel
theorem dM_need_34 : decode bM_need 34 = .ok (.iaload, 1) := by decide +kernel
theorem dM_need_35 : decode bM_need 35 = .ok (.ior, 1) := by decide +kernel
theorem dM_need_36 : decode bM_need 36 = .ok (.iload_n 2, 1) := by decide +kernel
theorem dM_need_37 : decode bM_need 37 = .ok (.ishr, 1) := by decide +kernel
theorem dM_need_38 : decode bM_need 38 = .ok (.iconst 1, 1) := by decide +kernel
theorem dM_need_39 : decode bM_need 39 = .ok (.iand, 1) := by decide +kernel
theorem dM_need_40 : decode bM_need 40 = .ok (.ifCond .eq 5, 3) := by decide +kernel
theorem dM_need_43 : decode bM_need 43 = .ok (.iconst (-1), 1) := by decide +kernel
theorem dM_need_44 : decode bM_need 44 = .ok (.ireturn, 1) := by decide +kernel
theorem dM_need_45 : decode bM_need 45 = .ok (.iload_n 3, 1) := by decide +kernel
theorem dM_need_46 : decode bM_need 46 = .ok (.ifCond .eq 18, 3) := by decide +kernel
theorem dM_need_49 : decode bM_need 49 = .ok (.aload_n 0, 1) := by decide +kernel
theorem dM_need_50 : decode bM_need 50 = .ok (.getfield 16, 3) := by decide +kernel
theorem dM_need_53 : decode bM_need 53 = .ok (.iload_n 1, 1) := by decide +kernel
theorem dM_need_54 : decode bM_need 54 = .ok (.dup2, 1) := by decide +kernel
theorem dM_need_55 : decode bM_need 55 = .ok (.iaload, 1) := by decide +kernel
theorem dM_need_56 : decode bM_need 56 = .ok (.iconst 1, 1) := by decide +kernel
theorem dM_need_57 : decode bM_need 57 = .ok (.iload_n 2, 1) := by decide +kernel
theorem dM_need_58 : decode bM_need 58 = .ok (.ishl, 1) := by decide +kernel
theorem dM_need_59 : decode bM_need 59 = .ok (.ior, 1) := by decide +kernel
theorem dM_need_60 : decode bM_need 60 = .ok (.iastore, 1) := by decide +kernel
theorem dM_need_61 : decode bM_need 61 = .ok (.goto 15, 3) := by decide +kernel
theorem dM_need_64 : decode bM_need 64 = .ok (.aload_n 0, 1) := by decide +kernel
theorem dM_need_65 : decode bM_need 65 = .ok (.getfield 13, 3) := by decide +kernel
theorem dM_need_68 : decode bM_need 68 = .ok (.iload_n 1, 1) := by decide +kernel
theorem dM_need_69 : decode bM_need 69 = .ok (.dup2, 1) := by decide +kernel
theorem dM_need_70 : decode bM_need 70 = .ok (.iaload, 1) := by decide +kernel
theorem dM_need_71 : decode bM_need 71 = .ok (.iconst 1, 1) := by decide +kernel
theorem dM_need_72 : decode bM_need 72 = .ok (.iload_n 2, 1) := by decide +kernel
theorem dM_need_73 : decode bM_need 73 = .ok (.ishl, 1) := by decide +kernel
theorem dM_need_74 : decode bM_need 74 = .ok (.ior, 1) := by decide +kernel
theorem dM_need_75 : decode bM_need 75 = .ok (.iastore, 1) := by decide +kernel
theorem dM_need_76 : decode bM_need 76 = .ok (.aload_n 0, 1) := by decide +kernel
theorem dM_need_77 : decode bM_need 77 = .ok (.getfield 13, 3) := by decide +kernel
theorem dM_need_80 : decode bM_need 80 = .ok (.iload_n 1, 1) := by decide +kernel
theorem dM_need_81 : decode bM_need 81 = .ok (.iaload, 1) := by decide +kernel
theorem dM_need_82 : decode bM_need 82 = .ok (.aload_n 0, 1) := by decide +kernel
theorem dM_need_83 : decode bM_need 83 = .ok (.getfield 16, 3) := by decide +kernel
theorem dM_need_86 : decode bM_need 86 = .ok (.iload_n 1, 1) := by decide +kernel
theorem dM_need_87 : decode bM_need 87 = .ok (.iaload, 1) := by decide +kernel
theorem dM_need_88 : decode bM_need 88 = .ok (.ior, 1) := by decide +kernel
theorem dM_need_89 : decode bM_need 89 = .ok (.invokestatic 96, 3) := by decide +kernel
theorem dM_need_92 : decode bM_need 92 = .ok (.ireturn, 1) := by decide +kernel
theorem dM_gone_0 : decode bM_gone 0 = .ok (.iload_n 1, 1) := by decide +kernel
theorem dM_gone_1 : decode bM_gone 1 = .ok (.iconst 0, 1) := by decide +kernel
theorem dM_gone_2 : decode bM_gone 2 = .ok (.bipush 7, 2) := by decide +kernel
theorem dM_gone_4 : decode bM_gone 4 = .ok (.invokestatic 81, 3) := by decide +kernel
theorem dM_gone_7 : decode bM_gone 7 = .ok (.ifCond .eq 12, 3) := by decide +kernel
theorem dM_gone_10 : decode bM_gone 10 = .ok (.aload_n 0, 1) := by decide +kernel
theorem dM_gone_11 : decode bM_gone 11 = .ok (.getfield 7, 3) := by decide +kernel
theorem dM_gone_14 : decode bM_gone 14 = .ok (.iload_n 1, 1) := by decide +kernel
theorem dM_gone_15 : decode bM_gone 15 = .ok (.iaload, 1) := by decide +kernel
theorem dM_gone_16 : decode bM_gone 16 = .ok (.ifCond .ne 7, 3) := by decide +kernel
theorem dM_gone_19 : decode bM_gone 19 = .ok (.iconst 1, 1) := by decide +kernel
theorem dM_gone_20 : decode bM_gone 20 = .ok (.goto 4, 3) := by decide +kernel
theorem dM_gone_23 : decode bM_gone 23 = .ok (.iconst 0, 1) := by decide +kernel
theorem dM_gone_24 : decode bM_gone 24 = .ok (.ireturn, 1) := by decide +kernel
theorem dM_bits_0 : decode bM_bits 0 = .ok (.iconst 0, 1) := by decide +kernel
theorem dM_bits_1 : decode bM_bits 1 = .ok (.istore_n 1, 1) := by decide +kernel
theorem dM_bits_2 : decode bM_bits 2 = .ok (.iconst 0, 1) := by decide +kernel
theorem dM_bits_3 : decode bM_bits 3 = .ok (.istore_n 2, 1) := by decide +kernel
theorem dM_bits_4 : decode bM_bits 4 = .ok (.iload_n 2, 1) := by decide +kernel
theorem dM_bits_5 : decode bM_bits 5 = .ok (.bipush 8, 2) := by decide +kernel
theorem dM_bits_7 : decode bM_bits 7 = .ok (.if_icmp .ge 17, 3) := by decide +kernel
theorem dM_bits_10 : decode bM_bits 10 = .ok (.iload_n 1, 1) := by decide +kernel
theorem dM_bits_11 : decode bM_bits 11 = .ok (.iload_n 0, 1) := by decide +kernel
theorem dM_bits_12 : decode bM_bits 12 = .ok (.iload_n 2, 1) := by decide +kernel
theorem dM_bits_13 : decode bM_bits 13 = .ok (.ishr, 1) := by decide +kernel
theorem dM_bits_14 : decode bM_bits 14 = .ok (.iconst 1, 1) := by decide +kernel
theorem dM_bits_15 : decode bM_bits 15 = .ok (.iand, 1) := by decide +kernel
theorem dM_bits_16 : decode bM_bits 16 = .ok (.iadd, 1) := by decide +kernel
theorem dM_bits_17 : decode bM_bits 17 = .ok (.istore_n 1, 1) := by decide +kernel
theorem dM_bits_18 : decode bM_bits 18 = .ok (.iinc 2 1, 3) := by decide +kernel
theorem dM_bits_21 : decode bM_bits 21 = .ok (.goto (-17), 3) := by decide +kernel
theorem dM_bits_24 : decode bM_bits 24 = .ok (.iload_n 1, 1) := by decide +kernel
theorem dM_bits_25 : decode bM_bits 25 = .ok (.ireturn, 1) := by decide +kernel
theorem dM_serve_0 : decode bM_serve 0 = .ok (.aload_n 0, 1) := by decide +kernel
theorem dM_serve_1 : decode bM_serve 1 = .ok (.iload_n 1, 1) := by decide +kernel
theorem dM_serve_2 : decode bM_serve 2 = .ok (.invokevirtual 92, 3) := by decide +kernel
theorem dM_serve_5 : decode bM_serve 5 = .ok (.ifCond .ne 27, 3) := by decide +kernel
theorem dM_serve_8 : decode bM_serve 8 = .ok (.iload_n 2, 1) := by decide +kernel
theorem dM_serve_9 : decode bM_serve 9 = .ok (.iconst 0, 1) := by decide +kernel
theorem dM_serve_10 : decode bM_serve 10 = .ok (.iconst 2, 1) := by decide +kernel
theorem dM_serve_11 : decode bM_serve 11 = .ok (.invokestatic 81, 3) := by decide +kernel
theorem dM_serve_14 : decode bM_serve 14 = .ok (.ifCond .eq 18, 3) := by decide +kernel
theorem dM_serve_17 : decode bM_serve 17 = .ok (.iload_n 2, 1) := by decide +kernel
theorem dM_serve_18 : decode bM_serve 18 = .ok (.iconst 2, 1) := by decide +kernel
theorem dM_serve_19 : decode bM_serve 19 = .ok (.if_icmp .ne 15, 3) := by decide +kernel
theorem dM_serve_22 : decode bM_serve 22 = .ok (.iload_n 3, 1) := by decide +kernel
theorem dM_serve_23 : decode bM_serve 23 = .ok (.iconst 0, 1) := by decide +kernel
theorem dM_serve_24 : decode bM_serve 24 = .ok (.bipush 9, 2) := by decide +kernel
theorem dM_serve_26 : decode bM_serve 26 = .ok (.invokestatic 81, 3) := by decide +kernel
theorem dM_serve_29 : decode bM_serve 29 = .ok (.ifCond .ne 5, 3) := by decide +kernel
theorem dM_serve_32 : decode bM_serve 32 = .ok (.iconst (-1), 1) := by decide +kernel
theorem dM_serve_33 : decode bM_serve 33 = .ok (.ireturn, 1) := by decide +kernel
theorem dM_serve_34 : decode bM_serve 34 = .ok (.aload_n 0, 1) := by decide +kernel
theorem dM_serve_35 : decode bM_serve 35 = .ok (.getfield 19, 3) := by decide +kernel
theorem dM_serve_38 : decode bM_serve 38 = .ok (.iload_n 1, 1) := by decide +kernel
theorem dM_serve_39 : decode bM_serve 39 = .ok (.iload_n 2, 1) := by decide +kernel
theorem dM_serve_40 : decode bM_serve 40 = .ok (.iastore, 1) := by decide +kernel
theorem dM_serve_41 : decode bM_serve 41 = .ok (.aload_n 0, 1) := by decide +kernel
theorem dM_serve_42 : decode bM_serve 42 = .ok (.getfield 22, 3) := by decide +kernel
theorem dM_serve_45 : decode bM_serve 45 = .ok (.iload_n 1, 1) := by decide +kernel
theorem dM_serve_46 : decode bM_serve 46 = .ok (.iload_n 3, 1) := by decide +kernel
theorem dM_serve_47 : decode bM_serve 47 = .ok (.iastore, 1) := by decide +kernel
theorem dM_serve_48 : decode bM_serve 48 = .ok (.iconst 0, 1) := by decide +kernel
theorem dM_serve_49 : decode bM_serve 49 = .ok (.ireturn, 1) := by decide +kernel
theorem dM_extend_0 : decode bM_extend 0 = .ok (.aload_n 0, 1) := by decide +kernel
theorem dM_extend_1 : decode bM_extend 1 = .ok (.iload_n 1, 1) := by decide +kernel
theorem dM_extend_2 : decode bM_extend 2 = .ok (.invokevirtual 92, 3) := by decide +kernel
theorem dM_extend_5 : decode bM_extend 5 = .ok (.ifCond .ne 22, 3) := by decide +kernel
theorem dM_extend_8 : decode bM_extend 8 = .ok (.iload_n 2, 1) := by decide +kernel
theorem dM_extend_9 : decode bM_extend 9 = .ok (.iconst 0, 1) := by decide +kernel
theorem dM_extend_10 : decode bM_extend 10 = .ok (.iconst 2, 1) := by decide +kernel
theorem dM_extend_11 : decode bM_extend 11 = .ok (.invokestatic 81, 3) := by decide +kernel
theorem dM_extend_14 : decode bM_extend 14 = .ok (.ifCond .eq 13, 3) := by decide +kernel
theorem dM_extend_17 : decode bM_extend 17 = .ok (.iload_n 3, 1) := by decide +kernel
theorem dM_extend_18 : decode bM_extend 18 = .ok (.iconst 0, 1) := by decide +kernel
theorem dM_extend_19 : decode bM_extend 19 = .ok (.bipush 8, 2) := by decide +kernel
theorem dM_extend_21 : decode bM_extend 21 = .ok (.invokestatic 81, 3) := by decide +kernel
theorem dM_extend_24 : decode bM_extend 24 = .ok (.ifCond .ne 5, 3) := by decide +kernel
theorem dM_extend_27 : decode bM_extend 27 = .ok (.iconst (-1), 1) := by decide +kernel
theorem dM_extend_28 : decode bM_extend 28 = .ok (.ireturn, 1) := by decide +kernel
theorem dM_extend_29 : decode bM_extend 29 = .ok (.aload_n 0, 1) := by decide +kernel
theorem dM_extend_30 : decode bM_extend 30 = .ok (.getfield 85, 3) := by decide +kernel
theorem dM_extend_33 : decode bM_extend 33 = .ok (.bipush 16, 2) := by decide +kernel
theorem dM_extend_35 : decode bM_extend 35 = .ok (.if_icmp .ne 6, 3) := by decide +kernel
theorem dM_extend_38 : decode bM_extend 38 = .ok (.bipush (-2), 2) := by decide +kernel
theorem dM_extend_40 : decode bM_extend 40 = .ok (.ireturn, 1) := by decide +kernel
theorem dM_extend_41 : decode bM_extend 41 = .ok (.aload_n 0, 1) := by decide +kernel
theorem dM_extend_42 : decode bM_extend 42 = .ok (.getfield 28, 3) := by decide +kernel
theorem dM_extend_45 : decode bM_extend 45 = .ok (.aload_n 0, 1) := by decide +kernel
theorem dM_extend_46 : decode bM_extend 46 = .ok (.getfield 85, 3) := by decide +kernel
theorem dM_extend_49 : decode bM_extend 49 = .ok (.iload_n 1, 1) := by decide +kernel
theorem dM_extend_50 : decode bM_extend 50 = .ok (.iastore, 1) := by decide +kernel
theorem dM_extend_51 : decode bM_extend 51 = .ok (.aload_n 0, 1) := by decide +kernel
theorem dM_extend_52 : decode bM_extend 52 = .ok (.getfield 31, 3) := by decide +kernel
theorem dM_extend_55 : decode bM_extend 55 = .ok (.aload_n 0, 1) := by decide +kernel
theorem dM_extend_56 : decode bM_extend 56 = .ok (.getfield 85, 3) := by decide +kernel
theorem dM_extend_59 : decode bM_extend 59 = .ok (.iload_n 2, 1) := by decide +kernel
theorem dM_extend_60 : decode bM_extend 60 = .ok (.iastore, 1) := by decide +kernel
theorem dM_extend_61 : decode bM_extend 61 = .ok (.aload_n 0, 1) := by decide +kernel
theorem dM_extend_62 : decode bM_extend 62 = .ok (.getfield 34, 3) := by decide +kernel
theorem dM_extend_65 : decode bM_extend 65 = .ok (.aload_n 0, 1) := by decide +kernel
theorem dM_extend_66 : decode bM_extend 66 = .ok (.getfield 85, 3) := by decide +kernel
theorem dM_extend_69 : decode bM_extend 69 = .ok (.iload_n 3, 1) := by decide +kernel
theorem dM_extend_70 : decode bM_extend 70 = .ok (.iastore, 1) := by decide +kernel
theorem dM_extend_71 : decode bM_extend 71 = .ok (.aload_n 0, 1) := by decide +kernel
theorem dM_extend_72 : decode bM_extend 72 = .ok (.getfield 37, 3) := by decide +kernel
theorem dM_extend_75 : decode bM_extend 75 = .ok (.aload_n 0, 1) := by decide +kernel
theorem dM_extend_76 : decode bM_extend 76 = .ok (.getfield 85, 3) := by decide +kernel
theorem dM_extend_79 : decode bM_extend 79 = .ok (.iload 4, 2) := by decide +kernel
theorem dM_extend_81 : decode bM_extend 81 = .ok (.iastore, 1) := by decide +kernel
theorem dM_extend_82 : decode bM_extend 82 = .ok (.aload_n 0, 1) := by decide +kernel
theorem dM_extend_83 : decode bM_extend 83 = .ok (.getfield 40, 3) := by decide +kernel
theorem dM_extend_86 : decode bM_extend 86 = .ok (.aload_n 0, 1) := by decide +kernel
theorem dM_extend_87 : decode bM_extend 87 = .ok (.getfield 85, 3) := by decide +kernel
theorem dM_extend_90 : decode bM_extend 90 = .ok (.dload 5, 2) := by decide +kernel
theorem dM_extend_92 : decode bM_extend 92 = .ok (.ldc2_w 100, 3) := by decide +kernel
theorem dM_extend_95 : decode bM_extend 95 = .ok (.dmul, 1) := by decide +kernel
theorem dM_extend_96 : decode bM_extend 96 = .ok (.d2l, 1) := by decide +kernel
theorem dM_extend_97 : decode bM_extend 97 = .ok (.lastore, 1) := by decide +kernel
theorem dM_extend_98 : decode bM_extend 98 = .ok (.aload_n 0, 1) := by decide +kernel
theorem dM_extend_99 : decode bM_extend 99 = .ok (.dup, 1) := by decide +kernel
theorem dM_extend_100 : decode bM_extend 100 = .ok (.getfield 85, 3) := by decide +kernel
theorem dM_extend_103 : decode bM_extend 103 = .ok (.iconst 1, 1) := by decide +kernel
theorem dM_extend_104 : decode bM_extend 104 = .ok (.iadd, 1) := by decide +kernel
theorem dM_extend_105 : decode bM_extend 105 = .ok (.putfield 85, 3) := by decide +kernel
theorem dM_extend_108 : decode bM_extend 108 = .ok (.aload_n 0, 1) := by decide +kernel
theorem dM_extend_109 : decode bM_extend 109 = .ok (.getfield 85, 3) := by decide +kernel
theorem dM_extend_112 : decode bM_extend 112 = .ok (.iconst 1, 1) := by decide +kernel
theorem dM_extend_113 : decode bM_extend 113 = .ok (.isub, 1) := by decide +kernel
theorem dM_extend_114 : decode bM_extend 114 = .ok (.ireturn, 1) := by decide +kernel
theorem dM_start_0 : decode bM_start 0 = .ok (.iload_n 1, 1) := by decide +kernel
theorem dM_start_1 : decode bM_start 1 = .ok (.iconst 0, 1) := by decide +kernel
theorem dM_start_2 : decode bM_start 2 = .ok (.bipush 7, 2) := by decide +kernel
theorem dM_start_4 : decode bM_start 4 = .ok (.invokestatic 81, 3) := by decide +kernel
theorem dM_start_7 : decode bM_start 7 = .ok (.ifCond .eq 11, 3) := by decide +kernel
theorem dM_start_10 : decode bM_start 10 = .ok (.aload_n 0, 1) := by decide +kernel
theorem dM_start_11 : decode bM_start 11 = .ok (.iload_n 1, 1) := by decide +kernel
theorem dM_start_12 : decode bM_start 12 = .ok (.invokevirtual 112, 3) := by decide +kernel
theorem dM_start_15 : decode bM_start 15 = .ok (.goto 4, 3) := by decide +kernel
theorem dM_start_18 : decode bM_start 18 = .ok (.iconst (-1), 1) := by decide +kernel
theorem dM_start_19 : decode bM_start 19 = .ok (.ireturn, 1) := by decide +kernel
theorem dM_started_0 : decode bM_started 0 = .ok (.aload_n 0, 1) := by decide +kernel
theorem dM_started_1 : decode bM_started 1 = .ok (.iload_n 1, 1) := by decide +kernel
theorem dM_started_2 : decode bM_started 2 = .ok (.invokevirtual 102, 3) := by decide +kernel
theorem dM_started_5 : decode bM_started 5 = .ok (.istore_n 2, 1) := by decide +kernel
theorem dM_started_6 : decode bM_started 6 = .ok (.iload_n 2, 1) := by decide +kernel
theorem dM_started_7 : decode bM_started 7 = .ok (.iconst 1, 1) := by decide +kernel
theorem dM_started_8 : decode bM_started 8 = .ok (.if_icmp .ge 5, 3) := by decide +kernel
theorem dM_started_11 : decode bM_started 11 = .ok (.iload_n 2, 1) := by decide +kernel
theorem dM_started_12 : decode bM_started 12 = .ok (.ireturn, 1) := by decide +kernel
theorem dM_started_13 : decode bM_started 13 = .ok (.iconst 1, 1) := by decide +kernel
theorem dM_started_14 : decode bM_started 14 = .ok (.istore_n 3, 1) := by decide +kernel
theorem dM_started_15 : decode bM_started 15 = .ok (.aload_n 0, 1) := by decide +kernel
theorem dM_started_16 : decode bM_started 16 = .ok (.getfield 60, 3) := by decide +kernel
theorem dM_started_19 : decode bM_started 19 = .ok (.iconst 0, 1) := by decide +kernel
theorem dM_started_20 : decode bM_started 20 = .ok (.iload_n 1, 1) := by decide +kernel
theorem dM_started_21 : decode bM_started 21 = .ok (.iastore, 1) := by decide +kernel
theorem dM_started_22 : decode bM_started 22 = .ok (.aload_n 0, 1) := by decide +kernel
theorem dM_started_23 : decode bM_started 23 = .ok (.getfield 63, 3) := by decide +kernel
theorem dM_started_26 : decode bM_started 26 = .ok (.iconst 0, 1) := by decide +kernel
theorem dM_started_27 : decode bM_started 27 = .ok (.iconst 0, 1) := by decide +kernel
theorem dM_started_28 : decode bM_started 28 = .ok (.iastore, 1) := by decide +kernel
theorem dM_started_29 : decode bM_started 29 = .ok (.aload_n 0, 1) := by decide +kernel
theorem dM_started_30 : decode bM_started 30 = .ok (.getfield 66, 3) := by decide +kernel
theorem dM_started_33 : decode bM_started 33 = .ok (.iload_n 1, 1) := by decide +kernel
theorem dM_started_34 : decode bM_started 34 = .ok (.iconst 1, 1) := by decide +kernel
theorem dM_started_35 : decode bM_started 35 = .ok (.bastore, 1) := by decide +kernel
theorem dM_started_36 : decode bM_started 36 = .ok (.iconst 0, 1) := by decide +kernel
theorem dM_started_37 : decode bM_started 37 = .ok (.istore_n 2, 1) := by decide +kernel
theorem dM_started_38 : decode bM_started 38 = .ok (.iload_n 3, 1) := by decide +kernel
theorem dM_started_39 : decode bM_started 39 = .ok (.ifCond .le 252, 3) := by decide +kernel
theorem dM_started_42 : decode bM_started 42 = .ok (.aload_n 0, 1) := by decide +kernel
theorem dM_started_43 : decode bM_started 43 = .ok (.getfield 60, 3) := by decide +kernel
theorem dM_started_46 : decode bM_started 46 = .ok (.iload_n 3, 1) := by decide +kernel
theorem dM_started_47 : decode bM_started 47 = .ok (.iconst 1, 1) := by decide +kernel
theorem dM_started_48 : decode bM_started 48 = .ok (.isub, 1) := by decide +kernel
theorem dM_started_49 : decode bM_started 49 = .ok (.iaload, 1) := by decide +kernel
theorem dM_started_50 : decode bM_started 50 = .ok (.istore 4, 2) := by decide +kernel
theorem dM_started_52 : decode bM_started 52 = .ok (.aload_n 0, 1) := by decide +kernel
theorem dM_started_53 : decode bM_started 53 = .ok (.getfield 63, 3) := by decide +kernel
theorem dM_started_56 : decode bM_started 56 = .ok (.iload_n 3, 1) := by decide +kernel
theorem dM_started_57 : decode bM_started 57 = .ok (.iconst 1, 1) := by decide +kernel
theorem dM_started_58 : decode bM_started 58 = .ok (.isub, 1) := by decide +kernel
theorem dM_started_59 : decode bM_started 59 = .ok (.iaload, 1) := by decide +kernel
theorem dM_started_60 : decode bM_started 60 = .ok (.istore 5, 2) := by decide +kernel
theorem dM_started_62 : decode bM_started 62 = .ok (.iload_n 2, 1) := by decide +kernel
theorem dM_started_63 : decode bM_started 63 = .ok (.ifCond .ne 10, 3) := by decide +kernel
theorem dM_started_66 : decode bM_started 66 = .ok (.iload 5, 2) := by decide +kernel
theorem dM_started_68 : decode bM_started 68 = .ok (.bipush 8, 2) := by decide +kernel
theorem dM_started_70 : decode bM_started 70 = .ok (.if_icmp .ne 94, 3) := by decide +kernel
theorem dM_started_73 : decode bM_started 73 = .ok (.aload_n 0, 1) := by decide +kernel
theorem dM_started_74 : decode bM_started 74 = .ok (.getfield 66, 3) := by decide +kernel
theorem dM_started_77 : decode bM_started 77 = .ok (.iload 4, 2) := by decide +kernel
theorem dM_started_79 : decode bM_started 79 = .ok (.iconst 0, 1) := by decide +kernel
theorem dM_started_80 : decode bM_started 80 = .ok (.bastore, 1) := by decide +kernel
theorem dM_started_81 : decode bM_started 81 = .ok (.iinc 3 (-1), 3) := by decide +kernel
theorem dM_started_84 : decode bM_started 84 = .ok (.iload_n 2, 1) := by decide +kernel
theorem dM_started_85 : decode bM_started 85 = .ok (.ifCond .ne 41, 3) := by decide +kernel
theorem dM_started_88 : decode bM_started 88 = .ok (.aload_n 0, 1) := by decide +kernel
theorem dM_started_89 : decode bM_started 89 = .ok (.getfield 7, 3) := by decide +kernel
theorem dM_started_92 : decode bM_started 92 = .ok (.iload 4, 2) := by decide +kernel
theorem dM_started_94 : decode bM_started 94 = .ok (.iconst 2, 1) := by decide +kernel
theorem dM_started_95 : decode bM_started 95 = .ok (.iastore, 1) := by decide +kernel
theorem dM_started_96 : decode bM_started 96 = .ok (.aload_n 0, 1) := by decide +kernel
theorem dM_started_97 : decode bM_started 97 = .ok (.dup, 1) := by decide +kernel
theorem dM_started_98 : decode bM_started 98 = .ok (.getfield 105, 3) := by decide +kernel
theorem dM_started_101 : decode bM_started 101 = .ok (.iconst 1, 1) := by decide +kernel
theorem dM_started_102 : decode bM_started 102 = .ok (.iadd, 1) := by decide +kernel
theorem dM_started_103 : decode bM_started 103 = .ok (.putfield 105, 3) := by decide +kernel
theorem dM_started_106 : decode bM_started 106 = .ok (.aload_n 0, 1) := by decide +kernel
theorem dM_started_107 : decode bM_started 107 = .ok (.getfield 25, 3) := by decide +kernel
theorem dM_started_110 : decode bM_started 110 = .ok (.iload 4, 2) := by decide +kernel
theorem dM_started_112 : decode bM_started 112 = .ok (.aload_n 0, 1) := by decide +kernel
theorem dM_started_113 : decode bM_started 113 = .ok (.getfield 105, 3) := by decide +kernel
theorem dM_started_116 : decode bM_started 116 = .ok (.iastore, 1) := by decide +kernel
theorem dM_started_117 : decode bM_started 117 = .ok (.aload_n 0, 1) := by decide +kernel
theorem dM_started_118 : decode bM_started 118 = .ok (.bipush 10, 2) := by decide +kernel
theorem dM_started_120 : decode bM_started 120 = .ok (.iload 4, 2) := by decide +kernel
theorem dM_started_122 : decode bM_started 122 = .ok (.iadd, 1) := by decide +kernel
theorem dM_started_123 : decode bM_started 123 = .ok (.invokevirtual 108, 3) := by decide +kernel
theorem dM_started_126 : decode bM_started 126 = .ok (.iload_n 3, 1) := by decide +kernel
theorem dM_started_127 : decode bM_started 127 = .ok (.ifCond .le (-89), 3) := by decide +kernel
theorem dM_started_130 : decode bM_started 130 = .ok (.aload_n 0, 1) := by decide +kernel
theorem dM_started_131 : decode bM_started 131 = .ok (.getfield 16, 3) := by decide +kernel
theorem dM_started_134 : decode bM_started 134 = .ok (.aload_n 0, 1) := by decide +kernel
theorem dM_started_135 : decode bM_started 135 = .ok (.getfield 60, 3) := by decide +kernel
theorem dM_started_138 : decode bM_started 138 = .ok (.iload_n 3, 1) := by decide +kernel
theorem dM_started_139 : decode bM_started 139 = .ok (.iconst 1, 1) := by decide +kernel
theorem dM_started_140 : decode bM_started 140 = .ok (.isub, 1) := by decide +kernel
theorem dM_started_141 : decode bM_started 141 = .ok (.iaload, 1) := by decide +kernel
theorem dM_started_142 : decode bM_started 142 = .ok (.iaload, 1) := by decide +kernel
theorem dM_started_143 : decode bM_started 143 = .ok (.aload_n 0, 1) := by decide +kernel
theorem dM_started_144 : decode bM_started 144 = .ok (.getfield 63, 3) := by decide +kernel
theorem dM_started_147 : decode bM_started 147 = .ok (.iload_n 3, 1) := by decide +kernel
theorem dM_started_148 : decode bM_started 148 = .ok (.iconst 1, 1) := by decide +kernel
theorem dM_started_149 : decode bM_started 149 = .ok (.isub, 1) := by decide +kernel
theorem dM_started_150 : decode bM_started 150 = .ok (.iaload, 1) := by decide +kernel
theorem dM_started_151 : decode bM_started 151 = .ok (.iconst 1, 1) := by decide +kernel
theorem dM_started_152 : decode bM_started 152 = .ok (.isub, 1) := by decide +kernel
theorem dM_started_153 : decode bM_started 153 = .ok (.ishr, 1) := by decide +kernel
theorem dM_started_154 : decode bM_started 154 = .ok (.iconst 1, 1) := by decide +kernel
theorem dM_started_155 : decode bM_started 155 = .ok (.iand, 1) := by decide +kernel
theorem dM_started_156 : decode bM_started 156 = .ok (.ifCond .eq (-118), 3) := by decide +kernel
theorem dM_started_159 : decode bM_started 159 = .ok (.iconst 0, 1) := by decide +kernel
theorem dM_started_160 : decode bM_started 160 = .ok (.istore_n 2, 1) := by decide +kernel
theorem dM_started_161 : decode bM_started 161 = .ok (.goto (-123), 3) := by decide +kernel
theorem dM_started_164 : decode bM_started 164 = .ok (.aload_n 0, 1) := by decide +kernel
theorem dM_started_165 : decode bM_started 165 = .ok (.getfield 63, 3) := by decide +kernel
theorem dM_started_168 : decode bM_started 168 = .ok (.iload_n 3, 1) := by decide +kernel
theorem dM_started_169 : decode bM_started 169 = .ok (.iconst 1, 1) := by decide +kernel
theorem dM_started_170 : decode bM_started 170 = .ok (.isub, 1) := by decide +kernel
theorem dM_started_171 : decode bM_started 171 = .ok (.dup2, 1) := by decide +kernel
theorem dM_started_172 : decode bM_started 172 = .ok (.iaload, 1) := by decide +kernel
theorem dM_started_173 : decode bM_started 173 = .ok (.iconst 1, 1) := by decide +kernel
theorem dM_started_174 : decode bM_started 174 = .ok (.iadd, 1) := by decide +kernel
theorem dM_started_175 : decode bM_started 175 = .ok (.iastore, 1) := by decide +kernel
theorem dM_started_176 : decode bM_started 176 = .ok (.aload_n 0, 1) := by decide +kernel
theorem dM_started_177 : decode bM_started 177 = .ok (.getfield 16, 3) := by decide +kernel
theorem dM_started_180 : decode bM_started 180 = .ok (.iload 4, 2) := by decide +kernel
theorem dM_started_182 : decode bM_started 182 = .ok (.iaload, 1) := by decide +kernel
theorem dM_started_183 : decode bM_started 183 = .ok (.iload 5, 2) := by decide +kernel
theorem dM_started_185 : decode bM_started 185 = .ok (.ishr, 1) := by decide +kernel
theorem dM_started_186 : decode bM_started 186 = .ok (.iconst 1, 1) := by decide +kernel
theorem dM_started_187 : decode bM_started 187 = .ok (.iand, 1) := by decide +kernel
theorem dM_started_188 : decode bM_started 188 = .ok (.ifCond .eq 7, 3) := by decide +kernel
theorem dM_started_191 : decode bM_started 191 = .ok (.iconst 1, 1) := by decide +kernel
theorem dM_started_192 : decode bM_started 192 = .ok (.goto 4, 3) := by decide +kernel
theorem dM_started_195 : decode bM_started 195 = .ok (.iconst 0, 1) := by decide +kernel
theorem dM_started_196 : decode bM_started 196 = .ok (.istore 6, 2) := by decide +kernel
theorem dM_started_198 : decode bM_started 198 = .ok (.iload 6, 2) := by decide +kernel
theorem dM_started_200 : decode bM_started 200 = .ok (.ifCond .ne 18, 3) := by decide +kernel
theorem dM_started_203 : decode bM_started 203 = .ok (.aload_n 0, 1) := by decide +kernel
theorem dM_started_204 : decode bM_started 204 = .ok (.getfield 13, 3) := by decide +kernel
theorem dM_started_207 : decode bM_started 207 = .ok (.iload 4, 2) := by decide +kernel
theorem dM_started_209 : decode bM_started 209 = .ok (.iaload, 1) := by decide +kernel
theorem dM_started_210 : decode bM_started 210 = .ok (.iload 5, 2) := by decide +kernel
theorem dM_started_212 : decode bM_started 212 = .ok (.ishr, 1) := by decide +kernel
theorem dM_started_213 : decode bM_started 213 = .ok (.iconst 1, 1) := by decide +kernel
theorem dM_started_214 : decode bM_started 214 = .ok (.iand, 1) := by decide +kernel
theorem dM_started_215 : decode bM_started 215 = .ok (.ifCond .eq (-177), 3) := by decide +kernel
theorem dM_started_218 : decode bM_started 218 = .ok (.iload 6, 2) := by decide +kernel
theorem dM_started_220 : decode bM_started 220 = .ok (.ifCond .eq 17, 3) := by decide +kernel
theorem dM_started_223 : decode bM_started 223 = .ok (.aload_n 0, 1) := by decide +kernel
theorem dM_started_224 : decode bM_started 224 = .ok (.getfield 7, 3) := by decide +kernel
theorem dM_started_227 : decode bM_started 227 = .ok (.iload 5, 2) := by decide +kernel
theorem dM_started_229 : decode bM_started 229 = .ok (.iaload, 1) := by decide +kernel
theorem dM_started_230 : decode bM_started 230 = .ok (.iconst 1, 1) := by decide +kernel
theorem dM_started_231 : decode bM_started 231 = .ok (.if_icmp .eq 6, 3) := by decide +kernel
theorem dM_started_234 : decode bM_started 234 = .ok (.goto (-196), 3) := by decide +kernel
theorem dM_started_237 : decode bM_started 237 = .ok (.aload_n 0, 1) := by decide +kernel
theorem dM_started_238 : decode bM_started 238 = .ok (.iload 5, 2) := by decide +kernel
theorem dM_started_240 : decode bM_started 240 = .ok (.invokevirtual 102, 3) := by decide +kernel
theorem dM_started_243 : decode bM_started 243 = .ok (.istore 7, 2) := by decide +kernel
theorem dM_started_245 : decode bM_started 245 = .ok (.iload 7, 2) := by decide +kernel
theorem dM_started_247 : decode bM_started 247 = .ok (.iconst 1, 1) := by decide +kernel
theorem dM_started_248 : decode bM_started 248 = .ok (.if_icmp .ne 32, 3) := by decide +kernel
theorem dM_started_251 : decode bM_started 251 = .ok (.aload_n 0, 1) := by decide +kernel
theorem dM_started_252 : decode bM_started 252 = .ok (.getfield 60, 3) := by decide +kernel
theorem dM_started_255 : decode bM_started 255 = .ok (.iload_n 3, 1) := by decide +kernel
theorem dM_started_256 : decode bM_started 256 = .ok (.iload 5, 2) := by decide +kernel
theorem dM_started_258 : decode bM_started 258 = .ok (.iastore, 1) := by decide +kernel
theorem dM_started_259 : decode bM_started 259 = .ok (.aload_n 0, 1) := by decide +kernel
theorem dM_started_260 : decode bM_started 260 = .ok (.getfield 63, 3) := by decide +kernel
theorem dM_started_263 : decode bM_started 263 = .ok (.iload_n 3, 1) := by decide +kernel
theorem dM_started_264 : decode bM_started 264 = .ok (.iconst 0, 1) := by decide +kernel
theorem dM_started_265 : decode bM_started 265 = .ok (.iastore, 1) := by decide +kernel
theorem dM_started_266 : decode bM_started 266 = .ok (.aload_n 0, 1) := by decide +kernel
theorem dM_started_267 : decode bM_started 267 = .ok (.getfield 66, 3) := by decide +kernel
theorem dM_started_270 : decode bM_started 270 = .ok (.iload 5, 2) := by decide +kernel
theorem dM_started_272 : decode bM_started 272 = .ok (.iconst 1, 1) := by decide +kernel
theorem dM_started_273 : decode bM_started 273 = .ok (.bastore, 1) := by decide +kernel
theorem dM_started_274 : decode bM_started 274 = .ok (.iinc 3 1, 3) := by decide +kernel
theorem dM_started_277 : decode bM_started 277 = .ok (.goto 11, 3) := by decide +kernel
theorem dM_started_280 : decode bM_started 280 = .ok (.iload 6, 2) := by decide +kernel
theorem dM_started_282 : decode bM_started 282 = .ok (.ifCond .ne 6, 3) := by decide +kernel
theorem dM_started_285 : decode bM_started 285 = .ok (.iload 7, 2) := by decide +kernel
theorem dM_started_287 : decode bM_started 287 = .ok (.istore_n 2, 1) := by decide +kernel
theorem dM_started_288 : decode bM_started 288 = .ok (.goto (-250), 3) := by decide +kernel
theorem dM_started_291 : decode bM_started 291 = .ok (.iload_n 2, 1) := by decide +kernel
theorem dM_started_292 : decode bM_started 292 = .ok (.ireturn, 1) := by decide +kernel
theorem dM_beginStart_0 : decode bM_beginStart 0 = .ok (.aload_n 0, 1) := by decide +kernel
theorem dM_beginStart_1 : decode bM_beginStart 1 = .ok (.getfield 7, 3) := by decide +kernel
theorem dM_beginStart_4 : decode bM_beginStart 4 = .ok (.iload_n 1, 1) := by decide +kernel
theorem dM_beginStart_5 : decode bM_beginStart 5 = .ok (.iaload, 1) := by decide +kernel
theorem dM_beginStart_6 : decode bM_beginStart 6 = .ok (.ifCond .ne 6, 3) := by decide +kernel
theorem dM_beginStart_9 : decode bM_beginStart 9 = .ok (.bipush (-3), 2) := by decide +kernel
theorem dM_beginStart_11 : decode bM_beginStart 11 = .ok (.ireturn, 1) := by decide +kernel
theorem dM_beginStart_12 : decode bM_beginStart 12 = .ok (.aload_n 0, 1) := by decide +kernel
theorem dM_beginStart_13 : decode bM_beginStart 13 = .ok (.getfield 7, 3) := by decide +kernel
theorem dM_beginStart_16 : decode bM_beginStart 16 = .ok (.iload_n 1, 1) := by decide +kernel
theorem dM_beginStart_17 : decode bM_beginStart 17 = .ok (.iaload, 1) := by decide +kernel
theorem dM_beginStart_18 : decode bM_beginStart 18 = .ok (.iconst 2, 1) := by decide +kernel
theorem dM_beginStart_19 : decode bM_beginStart 19 = .ok (.if_icmp .ne 5, 3) := by decide +kernel
theorem dM_beginStart_22 : decode bM_beginStart 22 = .ok (.iconst 0, 1) := by decide +kernel
theorem dM_beginStart_23 : decode bM_beginStart 23 = .ok (.ireturn, 1) := by decide +kernel
theorem dM_beginStart_24 : decode bM_beginStart 24 = .ok (.aload_n 0, 1) := by decide +kernel
theorem dM_beginStart_25 : decode bM_beginStart 25 = .ok (.getfield 66, 3) := by decide +kernel
theorem dM_beginStart_28 : decode bM_beginStart 28 = .ok (.iload_n 1, 1) := by decide +kernel
theorem dM_beginStart_29 : decode bM_beginStart 29 = .ok (.baload, 1) := by decide +kernel
theorem dM_beginStart_30 : decode bM_beginStart 30 = .ok (.ifCond .eq 8, 3) := by decide +kernel
theorem dM_beginStart_33 : decode bM_beginStart 33 = .ok (.bipush (-4), 2) := by decide +kernel
theorem dM_beginStart_35 : decode bM_beginStart 35 = .ok (.goto 4, 3) := by decide +kernel
theorem dM_beginStart_38 : decode bM_beginStart 38 = .ok (.iconst 1, 1) := by decide +kernel
theorem dM_beginStart_39 : decode bM_beginStart 39 = .ok (.ireturn, 1) := by decide +kernel
theorem dM_tell_0 : decode bM_tell 0 = .ok (.aload_n 0, 1) := by decide +kernel
theorem dM_tell_1 : decode bM_tell 1 = .ok (.getfield 57, 3) := by decide +kernel
theorem dM_tell_4 : decode bM_tell 4 = .ok (.aload_n 0, 1) := by decide +kernel
theorem dM_tell_5 : decode bM_tell 5 = .ok (.getfield 89, 3) := by decide +kernel
theorem dM_tell_8 : decode bM_tell 8 = .ok (.bipush 15, 2) := by decide +kernel
theorem dM_tell_10 : decode bM_tell 10 = .ok (.iand, 1) := by decide +kernel
theorem dM_tell_11 : decode bM_tell 11 = .ok (.iload_n 1, 1) := by decide +kernel
theorem dM_tell_12 : decode bM_tell 12 = .ok (.iastore, 1) := by decide +kernel
theorem dM_tell_13 : decode bM_tell 13 = .ok (.aload_n 0, 1) := by decide +kernel
theorem dM_tell_14 : decode bM_tell 14 = .ok (.dup, 1) := by decide +kernel
theorem dM_tell_15 : decode bM_tell 15 = .ok (.getfield 89, 3) := by decide +kernel
theorem dM_tell_18 : decode bM_tell 18 = .ok (.iconst 1, 1) := by decide +kernel
theorem dM_tell_19 : decode bM_tell 19 = .ok (.iadd, 1) := by decide +kernel
theorem dM_tell_20 : decode bM_tell 20 = .ok (.putfield 89, 3) := by decide +kernel
theorem dM_tell_23 : decode bM_tell 23 = .ok (.return_, 1) := by decide +kernel
theorem dM_stop_0 : decode bM_stop 0 = .ok (.iload_n 1, 1) := by decide +kernel
theorem dM_stop_1 : decode bM_stop 1 = .ok (.iconst 0, 1) := by decide +kernel
theorem dM_stop_2 : decode bM_stop 2 = .ok (.bipush 7, 2) := by decide +kernel
theorem dM_stop_4 : decode bM_stop 4 = .ok (.invokestatic 81, 3) := by decide +kernel
theorem dM_stop_7 : decode bM_stop 7 = .ok (.ifCond .eq 13, 3) := by decide +kernel
theorem dM_stop_10 : decode bM_stop 10 = .ok (.aload_n 0, 1) := by decide +kernel
theorem dM_stop_11 : decode bM_stop 11 = .ok (.getfield 7, 3) := by decide +kernel
theorem dM_stop_14 : decode bM_stop 14 = .ok (.iload_n 1, 1) := by decide +kernel
theorem dM_stop_15 : decode bM_stop 15 = .ok (.iaload, 1) := by decide +kernel
theorem dM_stop_16 : decode bM_stop 16 = .ok (.iconst 2, 1) := by decide +kernel
theorem dM_stop_17 : decode bM_stop 17 = .ok (.if_icmp .eq 5, 3) := by decide +kernel
theorem dM_stop_20 : decode bM_stop 20 = .ok (.iconst (-1), 1) := by decide +kernel
theorem dM_stop_21 : decode bM_stop 21 = .ok (.ireturn, 1) := by decide +kernel
theorem dM_stop_22 : decode bM_stop 22 = .ok (.iconst 1, 1) := by decide +kernel
theorem dM_stop_23 : decode bM_stop 23 = .ok (.istore_n 2, 1) := by decide +kernel
theorem dM_stop_24 : decode bM_stop 24 = .ok (.iconst 0, 1) := by decide +kernel
theorem dM_stop_25 : decode bM_stop 25 = .ok (.istore_n 3, 1) := by decide +kernel
theorem dM_stop_26 : decode bM_stop 26 = .ok (.aload_n 0, 1) := by decide +kernel
theorem dM_stop_27 : decode bM_stop 27 = .ok (.getfield 60, 3) := by decide +kernel
theorem dM_stop_30 : decode bM_stop 30 = .ok (.iconst 0, 1) := by decide +kernel
theorem dM_stop_31 : decode bM_stop 31 = .ok (.iload_n 1, 1) := by decide +kernel
theorem dM_stop_32 : decode bM_stop 32 = .ok (.iastore, 1) := by decide +kernel
theorem dM_stop_33 : decode bM_stop 33 = .ok (.aload_n 0, 1) := by decide +kernel
theorem dM_stop_34 : decode bM_stop 34 = .ok (.getfield 66, 3) := by decide +kernel
theorem dM_stop_37 : decode bM_stop 37 = .ok (.iload_n 1, 1) := by decide +kernel
theorem dM_stop_38 : decode bM_stop 38 = .ok (.iconst 1, 1) := by decide +kernel
theorem dM_stop_39 : decode bM_stop 39 = .ok (.bastore, 1) := by decide +kernel
theorem dM_stop_40 : decode bM_stop 40 = .ok (.iload_n 2, 1) := by decide +kernel
theorem dM_stop_41 : decode bM_stop 41 = .ok (.ifCond .le 82, 3) := by decide +kernel
theorem dM_stop_44 : decode bM_stop 44 = .ok (.aload_n 0, 1) := by decide +kernel
theorem dM_stop_45 : decode bM_stop 45 = .ok (.getfield 60, 3) := by decide +kernel
theorem dM_stop_48 : decode bM_stop 48 = .ok (.iload_n 2, 1) := by decide +kernel
theorem dM_stop_49 : decode bM_stop 49 = .ok (.iconst 1, 1) := by decide +kernel
theorem dM_stop_50 : decode bM_stop 50 = .ok (.isub, 1) := by decide +kernel
theorem dM_stop_51 : decode bM_stop 51 = .ok (.iaload, 1) := by decide +kernel
theorem dM_stop_52 : decode bM_stop 52 = .ok (.istore 4, 2) := by decide +kernel
theorem dM_stop_54 : decode bM_stop 54 = .ok (.aload_n 0, 1) := by decide +kernel
theorem dM_stop_55 : decode bM_stop 55 = .ok (.iload 4, 2) := by decide +kernel
theorem dM_stop_57 : decode bM_stop 57 = .ok (.invokevirtual 115, 3) := by decide +kernel
theorem dM_stop_60 : decode bM_stop 60 = .ok (.istore 5, 2) := by decide +kernel
theorem dM_stop_62 : decode bM_stop 62 = .ok (.iload 5, 2) := by decide +kernel
theorem dM_stop_64 : decode bM_stop 64 = .ok (.ifCond .lt 25, 3) := by decide +kernel
theorem dM_stop_67 : decode bM_stop 67 = .ok (.aload_n 0, 1) := by decide +kernel
theorem dM_stop_68 : decode bM_stop 68 = .ok (.getfield 60, 3) := by decide +kernel
theorem dM_stop_71 : decode bM_stop 71 = .ok (.iload_n 2, 1) := by decide +kernel
theorem dM_stop_72 : decode bM_stop 72 = .ok (.iload 5, 2) := by decide +kernel
theorem dM_stop_74 : decode bM_stop 74 = .ok (.iastore, 1) := by decide +kernel
theorem dM_stop_75 : decode bM_stop 75 = .ok (.aload_n 0, 1) := by decide +kernel
theorem dM_stop_76 : decode bM_stop 76 = .ok (.getfield 66, 3) := by decide +kernel
theorem dM_stop_79 : decode bM_stop 79 = .ok (.iload 5, 2) := by decide +kernel
theorem dM_stop_81 : decode bM_stop 81 = .ok (.iconst 1, 1) := by decide +kernel
theorem dM_stop_82 : decode bM_stop 82 = .ok (.bastore, 1) := by decide +kernel
theorem dM_stop_83 : decode bM_stop 83 = .ok (.iinc 2 1, 3) := by decide +kernel
theorem dM_stop_86 : decode bM_stop 86 = .ok (.goto 34, 3) := by decide +kernel
theorem dM_stop_89 : decode bM_stop 89 = .ok (.iinc 2 (-1), 3) := by decide +kernel
theorem dM_stop_92 : decode bM_stop 92 = .ok (.aload_n 0, 1) := by decide +kernel
theorem dM_stop_93 : decode bM_stop 93 = .ok (.getfield 66, 3) := by decide +kernel
theorem dM_stop_96 : decode bM_stop 96 = .ok (.iload 4, 2) := by decide +kernel
theorem dM_stop_98 : decode bM_stop 98 = .ok (.iconst 0, 1) := by decide +kernel
theorem dM_stop_99 : decode bM_stop 99 = .ok (.bastore, 1) := by decide +kernel
theorem dM_stop_100 : decode bM_stop 100 = .ok (.aload_n 0, 1) := by decide +kernel
theorem dM_stop_101 : decode bM_stop 101 = .ok (.getfield 7, 3) := by decide +kernel
theorem dM_stop_104 : decode bM_stop 104 = .ok (.iload 4, 2) := by decide +kernel
theorem dM_stop_106 : decode bM_stop 106 = .ok (.iconst 1, 1) := by decide +kernel
theorem dM_stop_107 : decode bM_stop 107 = .ok (.iastore, 1) := by decide +kernel
theorem dM_stop_108 : decode bM_stop 108 = .ok (.iinc 3 1, 3) := by decide +kernel
theorem dM_stop_111 : decode bM_stop 111 = .ok (.aload_n 0, 1) := by decide +kernel
theorem dM_stop_112 : decode bM_stop 112 = .ok (.bipush 20, 2) := by decide +kernel
theorem dM_stop_114 : decode bM_stop 114 = .ok (.iload 4, 2) := by decide +kernel
theorem dM_stop_116 : decode bM_stop 116 = .ok (.iadd, 1) := by decide +kernel
theorem dM_stop_117 : decode bM_stop 117 = .ok (.invokevirtual 108, 3) := by decide +kernel
theorem dM_stop_120 : decode bM_stop 120 = .ok (.goto (-80), 3) := by decide +kernel
theorem dM_stop_123 : decode bM_stop 123 = .ok (.iload_n 3, 1) := by decide +kernel
theorem dM_stop_124 : decode bM_stop 124 = .ok (.ireturn, 1) := by decide +kernel
theorem dM_lastNeeding_0 : decode bM_lastNeeding 0 = .ok (.iconst (-1), 1) := by decide +kernel
theorem dM_lastNeeding_1 : decode bM_lastNeeding 1 = .ok (.istore_n 2, 1) := by decide +kernel
theorem dM_lastNeeding_2 : decode bM_lastNeeding 2 = .ok (.iconst 0, 1) := by decide +kernel
theorem dM_lastNeeding_3 : decode bM_lastNeeding 3 = .ok (.istore_n 3, 1) := by decide +kernel
theorem dM_lastNeeding_4 : decode bM_lastNeeding 4 = .ok (.iload_n 3, 1) := by decide +kernel
theorem dM_lastNeeding_5 : decode bM_lastNeeding 5 = .ok (.bipush 8, 2) := by decide +kernel
theorem dM_lastNeeding_7 : decode bM_lastNeeding 7 = .ok (.if_icmp .ge 74, 3) := by decide +kernel
theorem dM_lastNeeding_10 : decode bM_lastNeeding 10 = .ok (.aload_n 0, 1) := by decide +kernel
theorem dM_lastNeeding_11 : decode bM_lastNeeding 11 = .ok (.getfield 7, 3) := by decide +kernel
theorem dM_lastNeeding_14 : decode bM_lastNeeding 14 = .ok (.iload_n 3, 1) := by decide +kernel
theorem dM_lastNeeding_15 : decode bM_lastNeeding 15 = .ok (.iaload, 1) := by decide +kernel
theorem dM_lastNeeding_16 : decode bM_lastNeeding 16 = .ok (.iconst 2, 1) := by decide +kernel
theorem dM_lastNeeding_17 : decode bM_lastNeeding 17 = .ok (.if_icmp .ne 29, 3) := by decide +kernel
theorem dM_lastNeeding_20 : decode bM_lastNeeding 20 = .ok (.aload_n 0, 1) := by decide +kernel
theorem dM_lastNeeding_21 : decode bM_lastNeeding 21 = .ok (.getfield 66, 3) := by decide +kernel
theorem dM_lastNeeding_24 : decode bM_lastNeeding 24 = .ok (.iload_n 3, 1) := by decide +kernel
theorem dM_lastNeeding_25 : decode bM_lastNeeding 25 = .ok (.baload, 1) := by decide +kernel
theorem dM_lastNeeding_26 : decode bM_lastNeeding 26 = .ok (.ifCond .ne 20, 3) := by decide +kernel
theorem dM_lastNeeding_29 : decode bM_lastNeeding 29 = .ok (.aload_n 0, 1) := by decide +kernel
theorem dM_lastNeeding_30 : decode bM_lastNeeding 30 = .ok (.getfield 13, 3) := by decide +kernel
theorem dM_lastNeeding_33 : decode bM_lastNeeding 33 = .ok (.iload_n 3, 1) := by decide +kernel
theorem dM_lastNeeding_34 : decode bM_lastNeeding 34 = .ok (.iaload, 1) := by decide +kernel
theorem dM_lastNeeding_35 : decode bM_lastNeeding 35 = .ok (.iload_n 1, 1) := by decide +kernel
theorem dM_lastNeeding_36 : decode bM_lastNeeding 36 = .ok (.ishr, 1) := by decide +kernel
theorem dM_lastNeeding_37 : decode bM_lastNeeding 37 = .ok (.iconst 1, 1) := by decide +kernel
theorem dM_lastNeeding_38 : decode bM_lastNeeding 38 = .ok (.iand, 1) := by decide +kernel
theorem dM_lastNeeding_39 : decode bM_lastNeeding 39 = .ok (.ifCond .eq 7, 3) := by decide +kernel
theorem dM_lastNeeding_42 : decode bM_lastNeeding 42 = .ok (.iconst 1, 1) := by decide +kernel
theorem dM_lastNeeding_43 : decode bM_lastNeeding 43 = .ok (.goto 4, 3) := by decide +kernel
theorem dM_lastNeeding_46 : decode bM_lastNeeding 46 = .ok (.iconst 0, 1) := by decide +kernel
theorem dM_lastNeeding_47 : decode bM_lastNeeding 47 = .ok (.istore 4, 2) := by decide +kernel
theorem dM_lastNeeding_49 : decode bM_lastNeeding 49 = .ok (.iload 4, 2) := by decide +kernel
theorem dM_lastNeeding_51 : decode bM_lastNeeding 51 = .ok (.ifCond .eq 24, 3) := by decide +kernel
theorem dM_lastNeeding_54 : decode bM_lastNeeding 54 = .ok (.iload_n 2, 1) := by decide +kernel
theorem dM_lastNeeding_55 : decode bM_lastNeeding 55 = .ok (.ifCond .lt 18, 3) := by decide +kernel
theorem dM_lastNeeding_58 : decode bM_lastNeeding 58 = .ok (.aload_n 0, 1) := by decide +kernel
theorem dM_lastNeeding_59 : decode bM_lastNeeding 59 = .ok (.getfield 25, 3) := by decide +kernel
theorem dM_lastNeeding_62 : decode bM_lastNeeding 62 = .ok (.iload_n 3, 1) := by decide +kernel
theorem dM_lastNeeding_63 : decode bM_lastNeeding 63 = .ok (.iaload, 1) := by decide +kernel
theorem dM_lastNeeding_64 : decode bM_lastNeeding 64 = .ok (.aload_n 0, 1) := by decide +kernel
theorem dM_lastNeeding_65 : decode bM_lastNeeding 65 = .ok (.getfield 25, 3) := by decide +kernel
theorem dM_lastNeeding_68 : decode bM_lastNeeding 68 = .ok (.iload_n 2, 1) := by decide +kernel
theorem dM_lastNeeding_69 : decode bM_lastNeeding 69 = .ok (.iaload, 1) := by decide +kernel
theorem dM_lastNeeding_70 : decode bM_lastNeeding 70 = .ok (.if_icmp .le 5, 3) := by decide +kernel
theorem dM_lastNeeding_73 : decode bM_lastNeeding 73 = .ok (.iload_n 3, 1) := by decide +kernel
theorem dM_lastNeeding_74 : decode bM_lastNeeding 74 = .ok (.istore_n 2, 1) := by decide +kernel
theorem dM_lastNeeding_75 : decode bM_lastNeeding 75 = .ok (.iinc 3 1, 3) := by decide +kernel
theorem dM_lastNeeding_78 : decode bM_lastNeeding 78 = .ok (.goto (-74), 3) := by decide +kernel
theorem dM_lastNeeding_81 : decode bM_lastNeeding 81 = .ok (.iload_n 2, 1) := by decide +kernel
theorem dM_lastNeeding_82 : decode bM_lastNeeding 82 = .ok (.ireturn, 1) := by decide +kernel
theorem dM_startAll_0 : decode bM_startAll 0 = .ok (.iconst 0, 1) := by decide +kernel
theorem dM_startAll_1 : decode bM_startAll 1 = .ok (.istore_n 1, 1) := by decide +kernel
theorem dM_startAll_2 : decode bM_startAll 2 = .ok (.iconst 0, 1) := by decide +kernel
theorem dM_startAll_3 : decode bM_startAll 3 = .ok (.istore_n 2, 1) := by decide +kernel
theorem dM_startAll_4 : decode bM_startAll 4 = .ok (.iload_n 2, 1) := by decide +kernel
theorem dM_startAll_5 : decode bM_startAll 5 = .ok (.bipush 8, 2) := by decide +kernel
theorem dM_startAll_7 : decode bM_startAll 7 = .ok (.if_icmp .ge 24, 3) := by decide +kernel
theorem dM_startAll_10 : decode bM_startAll 10 = .ok (.aload_n 0, 1) := by decide +kernel
theorem dM_startAll_11 : decode bM_startAll 11 = .ok (.getfield 7, 3) := by decide +kernel
theorem dM_startAll_14 : decode bM_startAll 14 = .ok (.iload_n 2, 1) := by decide +kernel
theorem dM_startAll_15 : decode bM_startAll 15 = .ok (.iaload, 1) := by decide +kernel
theorem dM_startAll_16 : decode bM_startAll 16 = .ok (.ifCond .eq 9, 3) := by decide +kernel
theorem dM_startAll_19 : decode bM_startAll 19 = .ok (.aload_n 0, 1) := by decide +kernel
theorem dM_startAll_20 : decode bM_startAll 20 = .ok (.iload_n 2, 1) := by decide +kernel
theorem dM_startAll_21 : decode bM_startAll 21 = .ok (.invokevirtual 112, 3) := by decide +kernel
theorem dM_startAll_24 : decode bM_startAll 24 = .ok (.istore_n 1, 1) := by decide +kernel
theorem dM_startAll_25 : decode bM_startAll 25 = .ok (.iinc 2 1, 3) := by decide +kernel
theorem dM_startAll_28 : decode bM_startAll 28 = .ok (.goto (-24), 3) := by decide +kernel
theorem dM_startAll_31 : decode bM_startAll 31 = .ok (.aload_n 0, 1) := by decide +kernel
theorem dM_startAll_32 : decode bM_startAll 32 = .ok (.invokevirtual 118, 3) := by decide +kernel
theorem dM_startAll_35 : decode bM_startAll 35 = .ok (.ireturn, 1) := by decide +kernel
theorem dM_active_0 : decode bM_active 0 = .ok (.iconst 0, 1) := by decide +kernel
theorem dM_active_1 : decode bM_active 1 = .ok (.istore_n 1, 1) := by decide +kernel
theorem dM_active_2 : decode bM_active 2 = .ok (.iconst 0, 1) := by decide +kernel
theorem dM_active_3 : decode bM_active 3 = .ok (.istore_n 2, 1) := by decide +kernel
theorem dM_active_4 : decode bM_active 4 = .ok (.iload_n 2, 1) := by decide +kernel
theorem dM_active_5 : decode bM_active 5 = .ok (.bipush 8, 2) := by decide +kernel
theorem dM_active_7 : decode bM_active 7 = .ok (.if_icmp .ge 22, 3) := by decide +kernel
theorem dM_active_10 : decode bM_active 10 = .ok (.aload_n 0, 1) := by decide +kernel
theorem dM_active_11 : decode bM_active 11 = .ok (.getfield 7, 3) := by decide +kernel
theorem dM_active_14 : decode bM_active 14 = .ok (.iload_n 2, 1) := by decide +kernel
theorem dM_active_15 : decode bM_active 15 = .ok (.iaload, 1) := by decide +kernel
theorem dM_active_16 : decode bM_active 16 = .ok (.iconst 2, 1) := by decide +kernel
theorem dM_active_17 : decode bM_active 17 = .ok (.if_icmp .ne 6, 3) := by decide +kernel
theorem dM_active_20 : decode bM_active 20 = .ok (.iinc 1 1, 3) := by decide +kernel
theorem dM_active_23 : decode bM_active 23 = .ok (.iinc 2 1, 3) := by decide +kernel
theorem dM_active_26 : decode bM_active 26 = .ok (.goto (-22), 3) := by decide +kernel
theorem dM_active_29 : decode bM_active 29 = .ok (.iload_n 1, 1) := by decide +kernel
theorem dM_active_30 : decode bM_active 30 = .ok (.ireturn, 1) := by decide +kernel
theorem dM_call_0 : decode bM_call 0 = .ok (.iload_n 1, 1) := by decide +kernel
theorem dM_call_1 : decode bM_call 1 = .ok (.iconst 0, 1) := by decide +kernel
theorem dM_call_2 : decode bM_call 2 = .ok (.iconst 2, 1) := by decide +kernel
theorem dM_call_3 : decode bM_call 3 = .ok (.invokestatic 81, 3) := by decide +kernel
theorem dM_call_6 : decode bM_call 6 = .ok (.ifCond .ne 5, 3) := by decide +kernel
theorem dM_call_9 : decode bM_call 9 = .ok (.iconst (-1), 1) := by decide +kernel
theorem dM_call_10 : decode bM_call 10 = .ok (.ireturn, 1) := by decide +kernel
theorem dM_call_11 : decode bM_call 11 = .ok (.aload_n 0, 1) := by decide +kernel
theorem dM_call_12 : decode bM_call 12 = .ok (.iconst 0, 1) := by decide +kernel
theorem dM_call_13 : decode bM_call 13 = .ok (.putfield 125, 3) := by decide +kernel
theorem dM_call_16 : decode bM_call 16 = .ok (.aload_n 0, 1) := by decide +kernel
theorem dM_call_17 : decode bM_call 17 = .ok (.iload_n 1, 1) := by decide +kernel
theorem dM_call_18 : decode bM_call 18 = .ok (.iload_n 2, 1) := by decide +kernel
theorem dM_call_19 : decode bM_call 19 = .ok (.invokevirtual 147, 3) := by decide +kernel
theorem dM_call_22 : decode bM_call 22 = .ok (.aload_n 0, 1) := by decide +kernel
theorem dM_call_23 : decode bM_call 23 = .ok (.getfield 125, 3) := by decide +kernel
theorem dM_call_26 : decode bM_call 26 = .ok (.iconst 1, 1) := by decide +kernel
theorem dM_call_27 : decode bM_call 27 = .ok (.isub, 1) := by decide +kernel
theorem dM_call_28 : decode bM_call 28 = .ok (.istore_n 3, 1) := by decide +kernel
theorem dM_call_29 : decode bM_call 29 = .ok (.aload_n 0, 1) := by decide +kernel
theorem dM_call_30 : decode bM_call 30 = .ok (.getfield 78, 3) := by decide +kernel
theorem dM_call_33 : decode bM_call 33 = .ok (.iload_n 3, 1) := by decide +kernel
theorem dM_call_34 : decode bM_call 34 = .ok (.iaload, 1) := by decide +kernel
theorem dM_call_35 : decode bM_call 35 = .ok (.aload_n 0, 1) := by decide +kernel
theorem dM_call_36 : decode bM_call 36 = .ok (.getfield 75, 3) := by decide +kernel
theorem dM_call_39 : decode bM_call 39 = .ok (.iload_n 3, 1) := by decide +kernel
theorem dM_call_40 : decode bM_call 40 = .ok (.iaload, 1) := by decide +kernel
theorem dM_call_41 : decode bM_call 41 = .ok (.if_icmp .ne 41, 3) := by decide +kernel
theorem dM_call_44 : decode bM_call 44 = .ok (.iload_n 3, 1) := by decide +kernel
theorem dM_call_45 : decode bM_call 45 = .ok (.ifCond .ne 10, 3) := by decide +kernel
theorem dM_call_48 : decode bM_call 48 = .ok (.aload_n 0, 1) := by decide +kernel
theorem dM_call_49 : decode bM_call 49 = .ok (.getfield 69, 3) := by decide +kernel
theorem dM_call_52 : decode bM_call 52 = .ok (.iconst 0, 1) := by decide +kernel
theorem dM_call_53 : decode bM_call 53 = .ok (.iaload, 1) := by decide +kernel
theorem dM_call_54 : decode bM_call 54 = .ok (.ireturn, 1) := by decide +kernel
theorem dM_call_55 : decode bM_call 55 = .ok (.aload_n 0, 1) := by decide +kernel
theorem dM_call_56 : decode bM_call 56 = .ok (.dup, 1) := by decide +kernel
theorem dM_call_57 : decode bM_call 57 = .ok (.getfield 125, 3) := by decide +kernel
theorem dM_call_60 : decode bM_call 60 = .ok (.iconst 1, 1) := by decide +kernel
theorem dM_call_61 : decode bM_call 61 = .ok (.isub, 1) := by decide +kernel
theorem dM_call_62 : decode bM_call 62 = .ok (.putfield 125, 3) := by decide +kernel
theorem dM_call_65 : decode bM_call 65 = .ok (.aload_n 0, 1) := by decide +kernel
theorem dM_call_66 : decode bM_call 66 = .ok (.getfield 69, 3) := by decide +kernel
theorem dM_call_69 : decode bM_call 69 = .ok (.iload_n 3, 1) := by decide +kernel
theorem dM_call_70 : decode bM_call 70 = .ok (.iconst 1, 1) := by decide +kernel
theorem dM_call_71 : decode bM_call 71 = .ok (.isub, 1) := by decide +kernel
theorem dM_call_72 : decode bM_call 72 = .ok (.aload_n 0, 1) := by decide +kernel
theorem dM_call_73 : decode bM_call 73 = .ok (.getfield 69, 3) := by decide +kernel
theorem dM_call_76 : decode bM_call 76 = .ok (.iload_n 3, 1) := by decide +kernel
theorem dM_call_77 : decode bM_call 77 = .ok (.iaload, 1) := by decide +kernel
theorem dM_call_78 : decode bM_call 78 = .ok (.iastore, 1) := by decide +kernel
theorem dM_call_79 : decode bM_call 79 = .ok (.goto (-57), 3) := by decide +kernel
theorem dM_call_82 : decode bM_call 82 = .ok (.aload_n 0, 1) := by decide +kernel
theorem dM_call_83 : decode bM_call 83 = .ok (.getfield 72, 3) := by decide +kernel
theorem dM_call_86 : decode bM_call 86 = .ok (.bipush 16, 2) := by decide +kernel
theorem dM_call_88 : decode bM_call 88 = .ok (.iload_n 3, 1) := by decide +kernel
theorem dM_call_89 : decode bM_call 89 = .ok (.imul, 1) := by decide +kernel
theorem dM_call_90 : decode bM_call 90 = .ok (.aload_n 0, 1) := by decide +kernel
theorem dM_call_91 : decode bM_call 91 = .ok (.getfield 78, 3) := by decide +kernel
theorem dM_call_94 : decode bM_call 94 = .ok (.iload_n 3, 1) := by decide +kernel
theorem dM_call_95 : decode bM_call 95 = .ok (.iaload, 1) := by decide +kernel
theorem dM_call_96 : decode bM_call 96 = .ok (.iadd, 1) := by decide +kernel
theorem dM_call_97 : decode bM_call 97 = .ok (.iaload, 1) := by decide +kernel
theorem dM_call_98 : decode bM_call 98 = .ok (.istore 4, 2) := by decide +kernel
theorem dM_call_100 : decode bM_call 100 = .ok (.aload_n 0, 1) := by decide +kernel
theorem dM_call_101 : decode bM_call 101 = .ok (.getfield 78, 3) := by decide +kernel
theorem dM_call_104 : decode bM_call 104 = .ok (.iload_n 3, 1) := by decide +kernel
theorem dM_call_105 : decode bM_call 105 = .ok (.dup2, 1) := by decide +kernel
theorem dM_call_106 : decode bM_call 106 = .ok (.iaload, 1) := by decide +kernel
theorem dM_call_107 : decode bM_call 107 = .ok (.iconst 1, 1) := by decide +kernel
theorem dM_call_108 : decode bM_call 108 = .ok (.iadd, 1) := by decide +kernel
theorem dM_call_109 : decode bM_call 109 = .ok (.iastore, 1) := by decide +kernel
theorem dM_call_110 : decode bM_call 110 = .ok (.aload_n 0, 1) := by decide +kernel
theorem dM_call_111 : decode bM_call 111 = .ok (.iload 4, 2) := by decide +kernel
theorem dM_call_113 : decode bM_call 113 = .ok (.invokevirtual 122, 3) := by decide +kernel
theorem dM_call_116 : decode bM_call 116 = .ok (.ifCond .ne 6, 3) := by decide +kernel
theorem dM_call_119 : decode bM_call 119 = .ok (.goto (-97), 3) := by decide +kernel
theorem dM_call_122 : decode bM_call 122 = .ok (.aload_n 0, 1) := by decide +kernel
theorem dM_call_123 : decode bM_call 123 = .ok (.getfield 47, 3) := by decide +kernel
theorem dM_call_126 : decode bM_call 126 = .ok (.iload 4, 2) := by decide +kernel
theorem dM_call_128 : decode bM_call 128 = .ok (.dup2, 1) := by decide +kernel
theorem dM_call_129 : decode bM_call 129 = .ok (.iaload, 1) := by decide +kernel
theorem dM_call_130 : decode bM_call 130 = .ok (.iconst 1, 1) := by decide +kernel
theorem dM_call_131 : decode bM_call 131 = .ok (.iadd, 1) := by decide +kernel
theorem dM_call_132 : decode bM_call 132 = .ok (.iastore, 1) := by decide +kernel
theorem dM_call_133 : decode bM_call 133 = .ok (.aload_n 0, 1) := by decide +kernel
theorem dM_call_134 : decode bM_call 134 = .ok (.iload 4, 2) := by decide +kernel
theorem dM_call_136 : decode bM_call 136 = .ok (.invokevirtual 154, 3) := by decide +kernel
theorem dM_call_139 : decode bM_call 139 = .ok (.istore 5, 2) := by decide +kernel
theorem dM_call_141 : decode bM_call 141 = .ok (.iload 5, 2) := by decide +kernel
theorem dM_call_143 : decode bM_call 143 = .ok (.ifCond .le 18, 3) := by decide +kernel
theorem dM_call_146 : decode bM_call 146 = .ok (.iload 5, 2) := by decide +kernel
theorem dM_call_148 : decode bM_call 148 = .ok (.bipush 8, 2) := by decide +kernel
theorem dM_call_150 : decode bM_call 150 = .ok (.if_icmp .ge 11, 3) := by decide +kernel
theorem dM_call_153 : decode bM_call 153 = .ok (.aload_n 0, 1) := by decide +kernel
theorem dM_call_154 : decode bM_call 154 = .ok (.iload 4, 2) := by decide +kernel
theorem dM_call_156 : decode bM_call 156 = .ok (.iload 5, 2) := by decide +kernel
theorem dM_call_158 : decode bM_call 158 = .ok (.invokevirtual 157, 3) := by decide +kernel
theorem dM_call_161 : decode bM_call 161 = .ok (.goto (-139), 3) := by decide +kernel
theorem dM_beginCall_0 : decode bM_beginCall 0 = .ok (.aload_n 0, 1) := by decide +kernel
theorem dM_beginCall_1 : decode bM_beginCall 1 = .ok (.getfield 69, 3) := by decide +kernel
theorem dM_beginCall_4 : decode bM_beginCall 4 = .ok (.aload_n 0, 1) := by decide +kernel
theorem dM_beginCall_5 : decode bM_beginCall 5 = .ok (.getfield 125, 3) := by decide +kernel
theorem dM_beginCall_8 : decode bM_beginCall 8 = .ok (.iload_n 2, 1) := by decide +kernel
theorem dM_beginCall_9 : decode bM_beginCall 9 = .ok (.iastore, 1) := by decide +kernel
theorem dM_beginCall_10 : decode bM_beginCall 10 = .ok (.aload_n 0, 1) := by decide +kernel
theorem dM_beginCall_11 : decode bM_beginCall 11 = .ok (.getfield 75, 3) := by decide +kernel
theorem dM_beginCall_14 : decode bM_beginCall 14 = .ok (.aload_n 0, 1) := by decide +kernel
theorem dM_beginCall_15 : decode bM_beginCall 15 = .ok (.getfield 125, 3) := by decide +kernel
theorem dM_beginCall_18 : decode bM_beginCall 18 = .ok (.iconst 0, 1) := by decide +kernel
theorem dM_beginCall_19 : decode bM_beginCall 19 = .ok (.iastore, 1) := by decide +kernel
theorem dM_beginCall_20 : decode bM_beginCall 20 = .ok (.aload_n 0, 1) := by decide +kernel
theorem dM_beginCall_21 : decode bM_beginCall 21 = .ok (.getfield 78, 3) := by decide +kernel
theorem dM_beginCall_24 : decode bM_beginCall 24 = .ok (.aload_n 0, 1) := by decide +kernel
theorem dM_beginCall_25 : decode bM_beginCall 25 = .ok (.getfield 125, 3) := by decide +kernel
theorem dM_beginCall_28 : decode bM_beginCall 28 = .ok (.iconst 0, 1) := by decide +kernel
theorem dM_beginCall_29 : decode bM_beginCall 29 = .ok (.iastore, 1) := by decide +kernel
theorem dM_beginCall_30 : decode bM_beginCall 30 = .ok (.aload_n 0, 1) := by decide +kernel
theorem dM_beginCall_31 : decode bM_beginCall 31 = .ok (.iload_n 1, 1) := by decide +kernel
theorem dM_beginCall_32 : decode bM_beginCall 32 = .ok (.iconst 0, 1) := by decide +kernel
theorem dM_beginCall_33 : decode bM_beginCall 33 = .ok (.invokevirtual 128, 3) := by decide +kernel
theorem dM_beginCall_36 : decode bM_beginCall 36 = .ok (.istore_n 3, 1) := by decide +kernel
theorem dM_beginCall_37 : decode bM_beginCall 37 = .ok (.iload_n 3, 1) := by decide +kernel
theorem dM_beginCall_38 : decode bM_beginCall 38 = .ok (.ifCond .lt 57, 3) := by decide +kernel
theorem dM_beginCall_41 : decode bM_beginCall 41 = .ok (.aload_n 0, 1) := by decide +kernel
theorem dM_beginCall_42 : decode bM_beginCall 42 = .ok (.getfield 72, 3) := by decide +kernel
theorem dM_beginCall_45 : decode bM_beginCall 45 = .ok (.bipush 16, 2) := by decide +kernel
theorem dM_beginCall_47 : decode bM_beginCall 47 = .ok (.aload_n 0, 1) := by decide +kernel
theorem dM_beginCall_48 : decode bM_beginCall 48 = .ok (.getfield 125, 3) := by decide +kernel
theorem dM_beginCall_51 : decode bM_beginCall 51 = .ok (.imul, 1) := by decide +kernel
theorem dM_beginCall_52 : decode bM_beginCall 52 = .ok (.aload_n 0, 1) := by decide +kernel
theorem dM_beginCall_53 : decode bM_beginCall 53 = .ok (.getfield 75, 3) := by decide +kernel
theorem dM_beginCall_56 : decode bM_beginCall 56 = .ok (.aload_n 0, 1) := by decide +kernel
theorem dM_beginCall_57 : decode bM_beginCall 57 = .ok (.getfield 125, 3) := by decide +kernel
theorem dM_beginCall_60 : decode bM_beginCall 60 = .ok (.iaload, 1) := by decide +kernel
theorem dM_beginCall_61 : decode bM_beginCall 61 = .ok (.iadd, 1) := by decide +kernel
theorem dM_beginCall_62 : decode bM_beginCall 62 = .ok (.iload_n 3, 1) := by decide +kernel
theorem dM_beginCall_63 : decode bM_beginCall 63 = .ok (.iastore, 1) := by decide +kernel
theorem dM_beginCall_64 : decode bM_beginCall 64 = .ok (.aload_n 0, 1) := by decide +kernel
theorem dM_beginCall_65 : decode bM_beginCall 65 = .ok (.getfield 75, 3) := by decide +kernel
theorem dM_beginCall_68 : decode bM_beginCall 68 = .ok (.aload_n 0, 1) := by decide +kernel
theorem dM_beginCall_69 : decode bM_beginCall 69 = .ok (.getfield 125, 3) := by decide +kernel
theorem dM_beginCall_72 : decode bM_beginCall 72 = .ok (.dup2, 1) := by decide +kernel
theorem dM_beginCall_73 : decode bM_beginCall 73 = .ok (.iaload, 1) := by decide +kernel
theorem dM_beginCall_74 : decode bM_beginCall 74 = .ok (.iconst 1, 1) := by decide +kernel
theorem dM_beginCall_75 : decode bM_beginCall 75 = .ok (.iadd, 1) := by decide +kernel
theorem dM_beginCall_76 : decode bM_beginCall 76 = .ok (.iastore, 1) := by decide +kernel
theorem dM_beginCall_77 : decode bM_beginCall 77 = .ok (.aload_n 0, 1) := by decide +kernel
theorem dM_beginCall_78 : decode bM_beginCall 78 = .ok (.iload_n 1, 1) := by decide +kernel
theorem dM_beginCall_79 : decode bM_beginCall 79 = .ok (.aload_n 0, 1) := by decide +kernel
theorem dM_beginCall_80 : decode bM_beginCall 80 = .ok (.getfield 75, 3) := by decide +kernel
theorem dM_beginCall_83 : decode bM_beginCall 83 = .ok (.aload_n 0, 1) := by decide +kernel
theorem dM_beginCall_84 : decode bM_beginCall 84 = .ok (.getfield 125, 3) := by decide +kernel
theorem dM_beginCall_87 : decode bM_beginCall 87 = .ok (.iaload, 1) := by decide +kernel
theorem dM_beginCall_88 : decode bM_beginCall 88 = .ok (.invokevirtual 128, 3) := by decide +kernel
theorem dM_beginCall_91 : decode bM_beginCall 91 = .ok (.istore_n 3, 1) := by decide +kernel
theorem dM_beginCall_92 : decode bM_beginCall 92 = .ok (.goto (-55), 3) := by decide +kernel
theorem dM_beginCall_95 : decode bM_beginCall 95 = .ok (.aload_n 0, 1) := by decide +kernel
theorem dM_beginCall_96 : decode bM_beginCall 96 = .ok (.dup, 1) := by decide +kernel
theorem dM_beginCall_97 : decode bM_beginCall 97 = .ok (.getfield 125, 3) := by decide +kernel
theorem dM_beginCall_100 : decode bM_beginCall 100 = .ok (.iconst 1, 1) := by decide +kernel
theorem dM_beginCall_101 : decode bM_beginCall 101 = .ok (.iadd, 1) := by decide +kernel
theorem dM_beginCall_102 : decode bM_beginCall 102 = .ok (.putfield 125, 3) := by decide +kernel
theorem dM_beginCall_105 : decode bM_beginCall 105 = .ok (.return_, 1) := by decide +kernel
theorem dM_ordered_0 : decode bM_ordered 0 = .ok (.iconst 0, 1) := by decide +kernel
theorem dM_ordered_1 : decode bM_ordered 1 = .ok (.istore_n 3, 1) := by decide +kernel
theorem dM_ordered_2 : decode bM_ordered 2 = .ok (.iload_n 3, 1) := by decide +kernel
theorem dM_ordered_3 : decode bM_ordered 3 = .ok (.aload_n 0, 1) := by decide +kernel
theorem dM_ordered_4 : decode bM_ordered 4 = .ok (.getfield 85, 3) := by decide +kernel
theorem dM_ordered_7 : decode bM_ordered 7 = .ok (.if_icmp .ge 140, 3) := by decide +kernel
theorem dM_ordered_10 : decode bM_ordered 10 = .ok (.aload_n 0, 1) := by decide +kernel
theorem dM_ordered_11 : decode bM_ordered 11 = .ok (.iload_n 3, 1) := by decide +kernel
theorem dM_ordered_12 : decode bM_ordered 12 = .ok (.invokevirtual 122, 3) := by decide +kernel
theorem dM_ordered_15 : decode bM_ordered 15 = .ok (.ifCond .eq 126, 3) := by decide +kernel
theorem dM_ordered_18 : decode bM_ordered 18 = .ok (.aload_n 0, 1) := by decide +kernel
theorem dM_ordered_19 : decode bM_ordered 19 = .ok (.getfield 31, 3) := by decide +kernel
theorem dM_ordered_22 : decode bM_ordered 22 = .ok (.iload_n 3, 1) := by decide +kernel
theorem dM_ordered_23 : decode bM_ordered 23 = .ok (.iaload, 1) := by decide +kernel
theorem dM_ordered_24 : decode bM_ordered 24 = .ok (.iload_n 1, 1) := by decide +kernel
theorem dM_ordered_25 : decode bM_ordered 25 = .ok (.if_icmp .eq 6, 3) := by decide +kernel
theorem dM_ordered_28 : decode bM_ordered 28 = .ok (.goto 113, 3) := by decide +kernel
theorem dM_ordered_31 : decode bM_ordered 31 = .ok (.iconst 0, 1) := by decide +kernel
theorem dM_ordered_32 : decode bM_ordered 32 = .ok (.istore 4, 2) := by decide +kernel
theorem dM_ordered_34 : decode bM_ordered 34 = .ok (.iconst 0, 1) := by decide +kernel
theorem dM_ordered_35 : decode bM_ordered 35 = .ok (.istore 5, 2) := by decide +kernel
theorem dM_ordered_37 : decode bM_ordered 37 = .ok (.iload 5, 2) := by decide +kernel
theorem dM_ordered_39 : decode bM_ordered 39 = .ok (.aload_n 0, 1) := by decide +kernel
theorem dM_ordered_40 : decode bM_ordered 40 = .ok (.getfield 85, 3) := by decide +kernel
theorem dM_ordered_43 : decode bM_ordered 43 = .ok (.if_icmp .ge 90, 3) := by decide +kernel
theorem dM_ordered_46 : decode bM_ordered 46 = .ok (.aload_n 0, 1) := by decide +kernel
theorem dM_ordered_47 : decode bM_ordered 47 = .ok (.iload 5, 2) := by decide +kernel
theorem dM_ordered_49 : decode bM_ordered 49 = .ok (.invokevirtual 122, 3) := by decide +kernel
theorem dM_ordered_52 : decode bM_ordered 52 = .ok (.ifCond .eq 24, 3) := by decide +kernel
theorem dM_ordered_55 : decode bM_ordered 55 = .ok (.aload_n 0, 1) := by decide +kernel
theorem dM_ordered_56 : decode bM_ordered 56 = .ok (.getfield 31, 3) := by decide +kernel
theorem dM_ordered_59 : decode bM_ordered 59 = .ok (.iload 5, 2) := by decide +kernel
theorem dM_ordered_61 : decode bM_ordered 61 = .ok (.iaload, 1) := by decide +kernel
theorem dM_ordered_62 : decode bM_ordered 62 = .ok (.iload_n 1, 1) := by decide +kernel
theorem dM_ordered_63 : decode bM_ordered 63 = .ok (.if_icmp .ne 13, 3) := by decide +kernel
theorem dM_ordered_66 : decode bM_ordered 66 = .ok (.iload 5, 2) := by decide +kernel
theorem dM_ordered_68 : decode bM_ordered 68 = .ok (.iload_n 3, 1) := by decide +kernel
theorem dM_ordered_69 : decode bM_ordered 69 = .ok (.if_icmp .eq 7, 3) := by decide +kernel
theorem dM_ordered_72 : decode bM_ordered 72 = .ok (.iconst 1, 1) := by decide +kernel
theorem dM_ordered_73 : decode bM_ordered 73 = .ok (.goto 4, 3) := by decide +kernel
theorem dM_ordered_76 : decode bM_ordered 76 = .ok (.iconst 0, 1) := by decide +kernel
theorem dM_ordered_77 : decode bM_ordered 77 = .ok (.istore 6, 2) := by decide +kernel
theorem dM_ordered_79 : decode bM_ordered 79 = .ok (.iload 6, 2) := by decide +kernel
theorem dM_ordered_81 : decode bM_ordered 81 = .ok (.ifCond .eq 46, 3) := by decide +kernel
theorem dM_ordered_84 : decode bM_ordered 84 = .ok (.aload_n 0, 1) := by decide +kernel
theorem dM_ordered_85 : decode bM_ordered 85 = .ok (.getfield 40, 3) := by decide +kernel
theorem dM_ordered_88 : decode bM_ordered 88 = .ok (.iload 5, 2) := by decide +kernel
theorem dM_ordered_90 : decode bM_ordered 90 = .ok (.laload, 1) := by decide +kernel
theorem dM_ordered_91 : decode bM_ordered 91 = .ok (.aload_n 0, 1) := by decide +kernel
theorem dM_ordered_92 : decode bM_ordered 92 = .ok (.getfield 40, 3) := by decide +kernel
theorem dM_ordered_95 : decode bM_ordered 95 = .ok (.iload_n 3, 1) := by decide +kernel
theorem dM_ordered_96 : decode bM_ordered 96 = .ok (.laload, 1) := by decide +kernel
theorem dM_ordered_97 : decode bM_ordered 97 = .ok (.lcmp, 1) := by decide +kernel
theorem dM_ordered_98 : decode bM_ordered 98 = .ok (.ifCond .lt 26, 3) := by decide +kernel
theorem dM_ordered_101 : decode bM_ordered 101 = .ok (.aload_n 0, 1) := by decide +kernel
theorem dM_ordered_102 : decode bM_ordered 102 = .ok (.getfield 40, 3) := by decide +kernel
theorem dM_ordered_105 : decode bM_ordered 105 = .ok (.iload 5, 2) := by decide +kernel
theorem dM_ordered_107 : decode bM_ordered 107 = .ok (.laload, 1) := by decide +kernel
theorem dM_ordered_108 : decode bM_ordered 108 = .ok (.aload_n 0, 1) := by decide +kernel
theorem dM_ordered_109 : decode bM_ordered 109 = .ok (.getfield 40, 3) := by decide +kernel
theorem dM_ordered_112 : decode bM_ordered 112 = .ok (.iload_n 3, 1) := by decide +kernel
theorem dM_ordered_113 : decode bM_ordered 113 = .ok (.laload, 1) := by decide +kernel
theorem dM_ordered_114 : decode bM_ordered 114 = .ok (.lcmp, 1) := by decide +kernel
theorem dM_ordered_115 : decode bM_ordered 115 = .ok (.ifCond .ne 12, 3) := by decide +kernel
theorem dM_ordered_118 : decode bM_ordered 118 = .ok (.iload 5, 2) := by decide +kernel
theorem dM_ordered_120 : decode bM_ordered 120 = .ok (.iload_n 3, 1) := by decide +kernel
theorem dM_ordered_121 : decode bM_ordered 121 = .ok (.if_icmp .ge 6, 3) := by decide +kernel
theorem dM_ordered_124 : decode bM_ordered 124 = .ok (.iinc 4 1, 3) := by decide +kernel
theorem dM_ordered_127 : decode bM_ordered 127 = .ok (.iinc 5 1, 3) := by decide +kernel
theorem dM_ordered_130 : decode bM_ordered 130 = .ok (.goto (-93), 3) := by decide +kernel
theorem dM_ordered_133 : decode bM_ordered 133 = .ok (.iload 4, 2) := by decide +kernel
theorem dM_ordered_135 : decode bM_ordered 135 = .ok (.iload_n 2, 1) := by decide +kernel
theorem dM_ordered_136 : decode bM_ordered 136 = .ok (.if_icmp .ne 5, 3) := by decide +kernel
theorem dM_ordered_139 : decode bM_ordered 139 = .ok (.iload_n 3, 1) := by decide +kernel
theorem dM_ordered_140 : decode bM_ordered 140 = .ok (.ireturn, 1) := by decide +kernel
theorem dM_ordered_141 : decode bM_ordered 141 = .ok (.iinc 3 1, 3) := by decide +kernel
theorem dM_ordered_144 : decode bM_ordered 144 = .ok (.goto (-142), 3) := by decide +kernel
theorem dM_ordered_147 : decode bM_ordered 147 = .ok (.iconst (-1), 1) := by decide +kernel
theorem dM_ordered_148 : decode bM_ordered 148 = .ok (.ireturn, 1) := by decide +kernel
theorem dM_live_0 : decode bM_live 0 = .ok (.aload_n 0, 1) := by decide +kernel
theorem dM_live_1 : decode bM_live 1 = .ok (.getfield 28, 3) := by decide +kernel
theorem dM_live_4 : decode bM_live 4 = .ok (.iload_n 1, 1) := by decide +kernel
theorem dM_live_5 : decode bM_live 5 = .ok (.iaload, 1) := by decide +kernel
theorem dM_live_6 : decode bM_live 6 = .ok (.ifCond .lt 31, 3) := by decide +kernel
theorem dM_live_9 : decode bM_live 9 = .ok (.aload_n 0, 1) := by decide +kernel
theorem dM_live_10 : decode bM_live 10 = .ok (.getfield 7, 3) := by decide +kernel
theorem dM_live_13 : decode bM_live 13 = .ok (.aload_n 0, 1) := by decide +kernel
theorem dM_live_14 : decode bM_live 14 = .ok (.getfield 28, 3) := by decide +kernel
theorem dM_live_17 : decode bM_live 17 = .ok (.iload_n 1, 1) := by decide +kernel
theorem dM_live_18 : decode bM_live 18 = .ok (.iaload, 1) := by decide +kernel
theorem dM_live_19 : decode bM_live 19 = .ok (.iaload, 1) := by decide +kernel
theorem dM_live_20 : decode bM_live 20 = .ok (.iconst 2, 1) := by decide +kernel
theorem dM_live_21 : decode bM_live 21 = .ok (.if_icmp .ne 16, 3) := by decide +kernel
theorem dM_live_24 : decode bM_live 24 = .ok (.aload_n 0, 1) := by decide +kernel
theorem dM_live_25 : decode bM_live 25 = .ok (.getfield 50, 3) := by decide +kernel
theorem dM_live_28 : decode bM_live 28 = .ok (.iload_n 1, 1) := by decide +kernel
theorem dM_live_29 : decode bM_live 29 = .ok (.baload, 1) := by decide +kernel
theorem dM_live_30 : decode bM_live 30 = .ok (.ifCond .ne 7, 3) := by decide +kernel
theorem dM_live_33 : decode bM_live 33 = .ok (.iconst 1, 1) := by decide +kernel
theorem dM_live_34 : decode bM_live 34 = .ok (.goto 4, 3) := by decide +kernel
theorem dM_live_37 : decode bM_live 37 = .ok (.iconst 0, 1) := by decide +kernel
theorem dM_live_38 : decode bM_live 38 = .ok (.ireturn, 1) := by decide +kernel
theorem dM_done_0 : decode bM_done 0 = .ok (.aload_n 0, 1) := by decide +kernel
theorem dM_done_1 : decode bM_done 1 = .ok (.getfield 69, 3) := by decide +kernel
theorem dM_done_4 : decode bM_done 4 = .ok (.aload_n 0, 1) := by decide +kernel
theorem dM_done_5 : decode bM_done 5 = .ok (.getfield 125, 3) := by decide +kernel
theorem dM_done_8 : decode bM_done 8 = .ok (.iconst 1, 1) := by decide +kernel
theorem dM_done_9 : decode bM_done 9 = .ok (.isub, 1) := by decide +kernel
theorem dM_done_10 : decode bM_done 10 = .ok (.iaload, 1) := by decide +kernel
theorem dM_done_11 : decode bM_done 11 = .ok (.istore_n 2, 1) := by decide +kernel
theorem dM_done_12 : decode bM_done 12 = .ok (.aload_n 0, 1) := by decide +kernel
theorem dM_done_13 : decode bM_done 13 = .ok (.getfield 37, 3) := by decide +kernel
theorem dM_done_16 : decode bM_done 16 = .ok (.iload_n 1, 1) := by decide +kernel
theorem dM_done_17 : decode bM_done 17 = .ok (.iaload, 1) := by decide +kernel
theorem dM_done_18 : decode bM_done 18 = .ok (.istore_n 3, 1) := by decide +kernel
theorem dM_done_19 : decode bM_done 19 = .ok (.aload_n 0, 1) := by decide +kernel
theorem dM_done_20 : decode bM_done 20 = .ok (.iconst (-1), 1) := by decide +kernel
theorem dM_done_21 : decode bM_done 21 = .ok (.putfield 132, 3) := by decide +kernel
theorem dM_done_24 : decode bM_done 24 = .ok (.aload_n 0, 1) := by decide +kernel
theorem dM_done_25 : decode bM_done 25 = .ok (.getfield 34, 3) := by decide +kernel
theorem dM_done_28 : decode bM_done 28 = .ok (.iload_n 1, 1) := by decide +kernel
theorem dM_done_29 : decode bM_done 29 = .ok (.iaload, 1) := by decide +kernel
theorem dM_done_30 : decode bM_done 30 = .ok (.tableswitch 167 0 7 #[46, 62, 69, 80, 87, 89, 134, 146], 46) := by decide +kernel
theorem dM_done_76 : decode bM_done 76 = .ok (.aload_n 0, 1) := by decide +kernel
theorem dM_done_77 : decode bM_done 77 = .ok (.getfield 69, 3) := by decide +kernel
theorem dM_done_80 : decode bM_done 80 = .ok (.aload_n 0, 1) := by decide +kernel
theorem dM_done_81 : decode bM_done 81 = .ok (.getfield 125, 3) := by decide +kernel
theorem dM_done_84 : decode bM_done 84 = .ok (.iconst 1, 1) := by decide +kernel
theorem dM_done_85 : decode bM_done 85 = .ok (.isub, 1) := by decide +kernel
theorem dM_done_86 : decode bM_done 86 = .ok (.iload_n 2, 1) := by decide +kernel
theorem dM_done_87 : decode bM_done 87 = .ok (.iload_n 3, 1) := by decide +kernel
theorem dM_done_88 : decode bM_done 88 = .ok (.iadd, 1) := by decide +kernel
theorem dM_done_89 : decode bM_done 89 = .ok (.iastore, 1) := by decide +kernel
theorem dM_done_90 : decode bM_done 90 = .ok (.iconst 0, 1) := by decide +kernel
theorem dM_done_91 : decode bM_done 91 = .ok (.ireturn, 1) := by decide +kernel
theorem dM_done_92 : decode bM_done 92 = .ok (.aload_n 0, 1) := by decide +kernel
theorem dM_done_93 : decode bM_done 93 = .ok (.iload_n 2, 1) := by decide +kernel
theorem dM_done_94 : decode bM_done 94 = .ok (.iload_n 3, 1) := by decide +kernel
theorem dM_done_95 : decode bM_done 95 = .ok (.invokevirtual 138, 3) := by decide +kernel
theorem dM_done_98 : decode bM_done 98 = .ok (.ireturn, 1) := by decide +kernel
theorem dM_done_99 : decode bM_done 99 = .ok (.aload_n 0, 1) := by decide +kernel
theorem dM_done_100 : decode bM_done 100 = .ok (.iload_n 2, 1) := by decide +kernel
theorem dM_done_101 : decode bM_done 101 = .ok (.iload_n 3, 1) := by decide +kernel
theorem dM_done_102 : decode bM_done 102 = .ok (.ixor, 1) := by decide +kernel
theorem dM_done_103 : decode bM_done 103 = .ok (.bipush 15, 2) := by decide +kernel
theorem dM_done_105 : decode bM_done 105 = .ok (.iand, 1) := by decide +kernel
theorem dM_done_106 : decode bM_done 106 = .ok (.invokevirtual 141, 3) := by decide +kernel
theorem dM_done_109 : decode bM_done 109 = .ok (.ireturn, 1) := by decide +kernel
theorem dM_done_110 : decode bM_done 110 = .ok (.aload_n 0, 1) := by decide +kernel
theorem dM_done_111 : decode bM_done 111 = .ok (.iload_n 2, 1) := by decide +kernel
theorem dM_done_112 : decode bM_done 112 = .ok (.iload_n 3, 1) := by decide +kernel
theorem dM_done_113 : decode bM_done 113 = .ok (.invokevirtual 144, 3) := by decide +kernel
theorem dM_done_116 : decode bM_done 116 = .ok (.ireturn, 1) := by decide +kernel
theorem dM_done_117 : decode bM_done 117 = .ok (.iconst 5, 1) := by decide +kernel
theorem dM_done_118 : decode bM_done 118 = .ok (.ireturn, 1) := by decide +kernel
theorem dM_done_119 : decode bM_done 119 = .ok (.aload_n 0, 1) := by decide +kernel
theorem dM_done_120 : decode bM_done 120 = .ok (.aload_n 0, 1) := by decide +kernel
theorem dM_done_121 : decode bM_done 121 = .ok (.getfield 28, 3) := by decide +kernel
theorem dM_done_124 : decode bM_done 124 = .ok (.iload_n 1, 1) := by decide +kernel
theorem dM_done_125 : decode bM_done 125 = .ok (.iaload, 1) := by decide +kernel
theorem dM_done_126 : decode bM_done 126 = .ok (.putfield 132, 3) := by decide +kernel
theorem dM_done_129 : decode bM_done 129 = .ok (.aload_n 0, 1) := by decide +kernel
theorem dM_done_130 : decode bM_done 130 = .ok (.getfield 125, 3) := by decide +kernel
theorem dM_done_133 : decode bM_done 133 = .ok (.iconst 4, 1) := by decide +kernel
theorem dM_done_134 : decode bM_done 134 = .ok (.if_icmp .ne 6, 3) := by decide +kernel
theorem dM_done_137 : decode bM_done 137 = .ok (.bipush 7, 2) := by decide +kernel
theorem dM_done_139 : decode bM_done 139 = .ok (.ireturn, 1) := by decide +kernel
theorem dM_done_140 : decode bM_done 140 = .ok (.aload_n 0, 1) := by decide +kernel
theorem dM_done_141 : decode bM_done 141 = .ok (.iload_n 3, 1) := by decide +kernel
theorem dM_done_142 : decode bM_done 142 = .ok (.iconst 3, 1) := by decide +kernel
theorem dM_done_143 : decode bM_done 143 = .ok (.iand, 1) := by decide +kernel
theorem dM_done_144 : decode bM_done 144 = .ok (.iconst 3, 1) := by decide +kernel
theorem dM_done_145 : decode bM_done 145 = .ok (.if_icmp .ne 7, 3) := by decide +kernel
theorem dM_done_148 : decode bM_done 148 = .ok (.iconst 0, 1) := by decide +kernel
theorem dM_done_149 : decode bM_done 149 = .ok (.goto 6, 3) := by decide +kernel
theorem dM_done_152 : decode bM_done 152 = .ok (.iload_n 3, 1) := by decide +kernel
theorem dM_done_153 : decode bM_done 153 = .ok (.iconst 3, 1) := by decide +kernel
theorem dM_done_154 : decode bM_done 154 = .ok (.iand, 1) := by decide +kernel
theorem dM_done_155 : decode bM_done 155 = .ok (.iload_n 2, 1) := by decide +kernel
theorem dM_done_156 : decode bM_done 156 = .ok (.iconst 1, 1) := by decide +kernel
theorem dM_done_157 : decode bM_done 157 = .ok (.iadd, 1) := by decide +kernel
theorem dM_done_158 : decode bM_done 158 = .ok (.invokevirtual 147, 3) := by decide +kernel
theorem dM_done_161 : decode bM_done 161 = .ok (.bipush 8, 2) := by decide +kernel
theorem dM_done_163 : decode bM_done 163 = .ok (.ireturn, 1) := by decide +kernel
theorem dM_done_164 : decode bM_done 164 = .ok (.iload_n 2, 1) := by decide +kernel
theorem dM_done_165 : decode bM_done 165 = .ok (.iload_n 3, 1) := by decide +kernel
theorem dM_done_166 : decode bM_done 166 = .ok (.if_icmp .ge 7, 3) := by decide +kernel
theorem dM_done_169 : decode bM_done 169 = .ok (.iconst 0, 1) := by decide +kernel
theorem dM_done_170 : decode bM_done 170 = .ok (.goto 5, 3) := by decide +kernel
theorem dM_done_173 : decode bM_done 173 = .ok (.bipush 6, 2) := by decide +kernel
theorem dM_done_175 : decode bM_done 175 = .ok (.ireturn, 1) := by decide +kernel
theorem dM_done_176 : decode bM_done 176 = .ok (.aload_n 0, 1) := by decide +kernel
theorem dM_done_177 : decode bM_done 177 = .ok (.getfield 69, 3) := by decide +kernel
theorem dM_done_180 : decode bM_done 180 = .ok (.aload_n 0, 1) := by decide +kernel
theorem dM_done_181 : decode bM_done 181 = .ok (.getfield 125, 3) := by decide +kernel
theorem dM_done_184 : decode bM_done 184 = .ok (.iconst 1, 1) := by decide +kernel
theorem dM_done_185 : decode bM_done 185 = .ok (.isub, 1) := by decide +kernel
theorem dM_done_186 : decode bM_done 186 = .ok (.iload_n 2, 1) := by decide +kernel
theorem dM_done_187 : decode bM_done 187 = .ok (.aload_n 0, 1) := by decide +kernel
theorem dM_done_188 : decode bM_done 188 = .ok (.getfield 47, 3) := by decide +kernel
theorem dM_done_191 : decode bM_done 191 = .ok (.iload_n 1, 1) := by decide +kernel
theorem dM_done_192 : decode bM_done 192 = .ok (.iaload, 1) := by decide +kernel
theorem dM_done_193 : decode bM_done 193 = .ok (.iadd, 1) := by decide +kernel
theorem dM_done_194 : decode bM_done 194 = .ok (.iastore, 1) := by decide +kernel
theorem dM_done_195 : decode bM_done 195 = .ok (.iconst 0, 1) := by decide +kernel
theorem dM_done_196 : decode bM_done 196 = .ok (.ireturn, 1) := by decide +kernel
theorem dM_done_197 : decode bM_done 197 = .ok (.aload_n 0, 1) := by decide +kernel
theorem dM_done_198 : decode bM_done 198 = .ok (.bipush 40, 2) := by decide +kernel
theorem dM_done_200 : decode bM_done 200 = .ok (.iload_n 1, 1) := by decide +kernel
theorem dM_done_201 : decode bM_done 201 = .ok (.iadd, 1) := by decide +kernel
theorem dM_done_202 : decode bM_done 202 = .ok (.invokevirtual 108, 3) := by decide +kernel
theorem dM_done_205 : decode bM_done 205 = .ok (.iload_n 2, 1) := by decide +kernel
theorem dM_done_206 : decode bM_done 206 = .ok (.iload_n 3, 1) := by decide +kernel
theorem dM_done_207 : decode bM_done 207 = .ok (.if_icmp .ne 6, 3) := by decide +kernel
theorem dM_done_210 : decode bM_done 210 = .ok (.bipush 6, 2) := by decide +kernel
theorem dM_done_212 : decode bM_done 212 = .ok (.ireturn, 1) := by decide +kernel
theorem dM_done_213 : decode bM_done 213 = .ok (.aload_n 0, 1) := by decide +kernel
theorem dM_done_214 : decode bM_done 214 = .ok (.getfield 69, 3) := by decide +kernel
theorem dM_done_217 : decode bM_done 217 = .ok (.aload_n 0, 1) := by decide +kernel
theorem dM_done_218 : decode bM_done 218 = .ok (.getfield 125, 3) := by decide +kernel
theorem dM_done_221 : decode bM_done 221 = .ok (.iconst 1, 1) := by decide +kernel
theorem dM_done_222 : decode bM_done 222 = .ok (.isub, 1) := by decide +kernel
theorem dM_done_223 : decode bM_done 223 = .ok (.iconst 2, 1) := by decide +kernel
theorem dM_done_224 : decode bM_done 224 = .ok (.iload_n 2, 1) := by decide +kernel
theorem dM_done_225 : decode bM_done 225 = .ok (.imul, 1) := by decide +kernel
theorem dM_done_226 : decode bM_done 226 = .ok (.iastore, 1) := by decide +kernel
theorem dM_done_227 : decode bM_done 227 = .ok (.iconst 0, 1) := by decide +kernel
theorem dM_done_228 : decode bM_done 228 = .ok (.ireturn, 1) := by decide +kernel
theorem dM_divided_0 : decode bM_divided 0 = .ok (.iload_n 2, 1) := by decide +kernel
theorem dM_divided_1 : decode bM_divided 1 = .ok (.ifCond .ne 5, 3) := by decide +kernel
theorem dM_divided_4 : decode bM_divided 4 = .ok (.iconst 1, 1) := by decide +kernel
theorem dM_divided_5 : decode bM_divided 5 = .ok (.ireturn, 1) := by decide +kernel
theorem dM_divided_6 : decode bM_divided 6 = .ok (.aload_n 0, 1) := by decide +kernel
theorem dM_divided_7 : decode bM_divided 7 = .ok (.getfield 69, 3) := by decide +kernel
theorem dM_divided_10 : decode bM_divided 10 = .ok (.aload_n 0, 1) := by decide +kernel
theorem dM_divided_11 : decode bM_divided 11 = .ok (.getfield 125, 3) := by decide +kernel
theorem dM_divided_14 : decode bM_divided 14 = .ok (.iconst 1, 1) := by decide +kernel
theorem dM_divided_15 : decode bM_divided 15 = .ok (.isub, 1) := by decide +kernel
theorem dM_divided_16 : decode bM_divided 16 = .ok (.iload_n 2, 1) := by decide +kernel
theorem dM_divided_17 : decode bM_divided 17 = .ok (.iconst (-1), 1) := by decide +kernel
theorem dM_divided_18 : decode bM_divided 18 = .ok (.if_icmp .ne 8, 3) := by decide +kernel
theorem dM_divided_21 : decode bM_divided 21 = .ok (.iload_n 1, 1) := by decide +kernel
theorem dM_divided_22 : decode bM_divided 22 = .ok (.ineg, 1) := by decide +kernel
theorem dM_divided_23 : decode bM_divided 23 = .ok (.goto 6, 3) := by decide +kernel
theorem dM_divided_26 : decode bM_divided 26 = .ok (.iload_n 1, 1) := by decide +kernel
theorem dM_divided_27 : decode bM_divided 27 = .ok (.iload_n 2, 1) := by decide +kernel
theorem dM_divided_28 : decode bM_divided 28 = .ok (.idiv, 1) := by decide +kernel
theorem dM_divided_29 : decode bM_divided 29 = .ok (.iastore, 1) := by decide +kernel
theorem dM_divided_30 : decode bM_divided 30 = .ok (.iconst 0, 1) := by decide +kernel
theorem dM_divided_31 : decode bM_divided 31 = .ok (.ireturn, 1) := by decide +kernel
theorem dM_looked_0 : decode bM_looked 0 = .ok (.iload_n 1, 1) := by decide +kernel
theorem dM_looked_1 : decode bM_looked 1 = .ok (.bipush 11, 2) := by decide +kernel
theorem dM_looked_3 : decode bM_looked 3 = .ok (.if_icmp .le 5, 3) := by decide +kernel
theorem dM_looked_6 : decode bM_looked 6 = .ok (.iconst 2, 1) := by decide +kernel
theorem dM_looked_7 : decode bM_looked 7 = .ok (.ireturn, 1) := by decide +kernel
theorem dM_looked_8 : decode bM_looked 8 = .ok (.aload_n 0, 1) := by decide +kernel
theorem dM_looked_9 : decode bM_looked 9 = .ok (.getfield 69, 3) := by decide +kernel
theorem dM_looked_12 : decode bM_looked 12 = .ok (.aload_n 0, 1) := by decide +kernel
theorem dM_looked_13 : decode bM_looked 13 = .ok (.getfield 125, 3) := by decide +kernel
theorem dM_looked_16 : decode bM_looked 16 = .ok (.iconst 1, 1) := by decide +kernel
theorem dM_looked_17 : decode bM_looked 17 = .ok (.isub, 1) := by decide +kernel
theorem dM_looked_18 : decode bM_looked 18 = .ok (.iload_n 1, 1) := by decide +kernel
theorem dM_looked_19 : decode bM_looked 19 = .ok (.invokestatic 135, 3) := by decide +kernel
theorem dM_looked_22 : decode bM_looked 22 = .ok (.iastore, 1) := by decide +kernel
theorem dM_looked_23 : decode bM_looked 23 = .ok (.iconst 0, 1) := by decide +kernel
theorem dM_looked_24 : decode bM_looked 24 = .ok (.ireturn, 1) := by decide +kernel
theorem dM_prime_0 : decode bM_prime 0 = .ok (.iconst 2, 1) := by decide +kernel
theorem dM_prime_1 : decode bM_prime 1 = .ok (.istore_n 1, 1) := by decide +kernel
theorem dM_prime_2 : decode bM_prime 2 = .ok (.iload_n 0, 1) := by decide +kernel
theorem dM_prime_3 : decode bM_prime 3 = .ok (.istore_n 2, 1) := by decide +kernel
theorem dM_prime_4 : decode bM_prime 4 = .ok (.iload_n 2, 1) := by decide +kernel
theorem dM_prime_5 : decode bM_prime 5 = .ok (.ifCond .le 42, 3) := by decide +kernel
theorem dM_prime_8 : decode bM_prime 8 = .ok (.iinc 1 1, 3) := by decide +kernel
theorem dM_prime_11 : decode bM_prime 11 = .ok (.iconst 1, 1) := by decide +kernel
theorem dM_prime_12 : decode bM_prime 12 = .ok (.istore_n 3, 1) := by decide +kernel
theorem dM_prime_13 : decode bM_prime 13 = .ok (.iconst 2, 1) := by decide +kernel
theorem dM_prime_14 : decode bM_prime 14 = .ok (.istore 4, 2) := by decide +kernel
theorem dM_prime_16 : decode bM_prime 16 = .ok (.iload 4, 2) := by decide +kernel
theorem dM_prime_18 : decode bM_prime 18 = .ok (.iload_n 1, 1) := by decide +kernel
theorem dM_prime_19 : decode bM_prime 19 = .ok (.if_icmp .ge 18, 3) := by decide +kernel
theorem dM_prime_22 : decode bM_prime 22 = .ok (.iload_n 1, 1) := by decide +kernel
theorem dM_prime_23 : decode bM_prime 23 = .ok (.iload 4, 2) := by decide +kernel
theorem dM_prime_25 : decode bM_prime 25 = .ok (.irem, 1) := by decide +kernel
theorem dM_prime_26 : decode bM_prime 26 = .ok (.ifCond .ne 5, 3) := by decide +kernel
theorem dM_prime_29 : decode bM_prime 29 = .ok (.iconst 0, 1) := by decide +kernel
theorem dM_prime_30 : decode bM_prime 30 = .ok (.istore_n 3, 1) := by decide +kernel
theorem dM_prime_31 : decode bM_prime 31 = .ok (.iinc 4 1, 3) := by decide +kernel
theorem dM_prime_34 : decode bM_prime 34 = .ok (.goto (-18), 3) := by decide +kernel
theorem dM_prime_37 : decode bM_prime 37 = .ok (.iload_n 3, 1) := by decide +kernel
theorem dM_prime_38 : decode bM_prime 38 = .ok (.ifCond .eq 6, 3) := by decide +kernel
theorem dM_prime_41 : decode bM_prime 41 = .ok (.iinc 2 (-1), 3) := by decide +kernel
theorem dM_prime_44 : decode bM_prime 44 = .ok (.goto (-40), 3) := by decide +kernel
theorem dM_prime_47 : decode bM_prime 47 = .ok (.iload_n 1, 1) := by decide +kernel
theorem dM_prime_48 : decode bM_prime 48 = .ok (.ireturn, 1) := by decide +kernel
theorem dM_asked_0 : decode bM_asked 0 = .ok (.aload_n 0, 1) := by decide +kernel
theorem dM_asked_1 : decode bM_asked 1 = .ok (.iload_n 2, 1) := by decide +kernel
theorem dM_asked_2 : decode bM_asked 2 = .ok (.bipush 7, 2) := by decide +kernel
theorem dM_asked_4 : decode bM_asked 4 = .ok (.iand, 1) := by decide +kernel
theorem dM_asked_5 : decode bM_asked 5 = .ok (.putfield 132, 3) := by decide +kernel
theorem dM_asked_8 : decode bM_asked 8 = .ok (.aload_n 0, 1) := by decide +kernel
theorem dM_asked_9 : decode bM_asked 9 = .ok (.getfield 7, 3) := by decide +kernel
theorem dM_asked_12 : decode bM_asked 12 = .ok (.aload_n 0, 1) := by decide +kernel
theorem dM_asked_13 : decode bM_asked 13 = .ok (.getfield 132, 3) := by decide +kernel
theorem dM_asked_16 : decode bM_asked 16 = .ok (.iaload, 1) := by decide +kernel
theorem dM_asked_17 : decode bM_asked 17 = .ok (.iconst 2, 1) := by decide +kernel
theorem dM_asked_18 : decode bM_asked 18 = .ok (.if_icmp .ne 15, 3) := by decide +kernel
theorem dM_asked_21 : decode bM_asked 21 = .ok (.aload_n 0, 1) := by decide +kernel
theorem dM_asked_22 : decode bM_asked 22 = .ok (.getfield 19, 3) := by decide +kernel
theorem dM_asked_25 : decode bM_asked 25 = .ok (.aload_n 0, 1) := by decide +kernel
theorem dM_asked_26 : decode bM_asked 26 = .ok (.getfield 132, 3) := by decide +kernel
theorem dM_asked_29 : decode bM_asked 29 = .ok (.iaload, 1) := by decide +kernel
theorem dM_asked_30 : decode bM_asked 30 = .ok (.ifCond .ne 5, 3) := by decide +kernel
theorem dM_asked_33 : decode bM_asked 33 = .ok (.iconst 4, 1) := by decide +kernel
theorem dM_asked_34 : decode bM_asked 34 = .ok (.ireturn, 1) := by decide +kernel
theorem dM_asked_35 : decode bM_asked 35 = .ok (.aload_n 0, 1) := by decide +kernel
theorem dM_asked_36 : decode bM_asked 36 = .ok (.getfield 19, 3) := by decide +kernel
theorem dM_asked_39 : decode bM_asked 39 = .ok (.aload_n 0, 1) := by decide +kernel
theorem dM_asked_40 : decode bM_asked 40 = .ok (.getfield 132, 3) := by decide +kernel
theorem dM_asked_43 : decode bM_asked 43 = .ok (.iaload, 1) := by decide +kernel
theorem dM_asked_44 : decode bM_asked 44 = .ok (.iconst 2, 1) := by decide +kernel
theorem dM_asked_45 : decode bM_asked 45 = .ok (.if_icmp .ne 5, 3) := by decide +kernel
theorem dM_asked_48 : decode bM_asked 48 = .ok (.iconst 3, 1) := by decide +kernel
theorem dM_asked_49 : decode bM_asked 49 = .ok (.ireturn, 1) := by decide +kernel
theorem dM_asked_50 : decode bM_asked 50 = .ok (.aload_n 0, 1) := by decide +kernel
theorem dM_asked_51 : decode bM_asked 51 = .ok (.getfield 69, 3) := by decide +kernel
theorem dM_asked_54 : decode bM_asked 54 = .ok (.aload_n 0, 1) := by decide +kernel
theorem dM_asked_55 : decode bM_asked 55 = .ok (.getfield 125, 3) := by decide +kernel
theorem dM_asked_58 : decode bM_asked 58 = .ok (.iconst 1, 1) := by decide +kernel
theorem dM_asked_59 : decode bM_asked 59 = .ok (.isub, 1) := by decide +kernel
theorem dM_asked_60 : decode bM_asked 60 = .ok (.iload_n 1, 1) := by decide +kernel
theorem dM_asked_61 : decode bM_asked 61 = .ok (.aload_n 0, 1) := by decide +kernel
theorem dM_asked_62 : decode bM_asked 62 = .ok (.getfield 22, 3) := by decide +kernel
theorem dM_asked_65 : decode bM_asked 65 = .ok (.aload_n 0, 1) := by decide +kernel
theorem dM_asked_66 : decode bM_asked 66 = .ok (.getfield 132, 3) := by decide +kernel
theorem dM_asked_69 : decode bM_asked 69 = .ok (.iaload, 1) := by decide +kernel
theorem dM_asked_70 : decode bM_asked 70 = .ok (.iadd, 1) := by decide +kernel
theorem dM_asked_71 : decode bM_asked 71 = .ok (.iastore, 1) := by decide +kernel
theorem dM_asked_72 : decode bM_asked 72 = .ok (.iconst 0, 1) := by decide +kernel
theorem dM_asked_73 : decode bM_asked 73 = .ok (.ireturn, 1) := by decide +kernel
theorem dM_fail_0 : decode bM_fail 0 = .ok (.aload_n 0, 1) := by decide +kernel
theorem dM_fail_1 : decode bM_fail 1 = .ok (.getfield 44, 3) := by decide +kernel
theorem dM_fail_4 : decode bM_fail 4 = .ok (.iload_n 1, 1) := by decide +kernel
theorem dM_fail_5 : decode bM_fail 5 = .ok (.dup2, 1) := by decide +kernel
theorem dM_fail_6 : decode bM_fail 6 = .ok (.iaload, 1) := by decide +kernel
theorem dM_fail_7 : decode bM_fail 7 = .ok (.iconst 1, 1) := by decide +kernel
theorem dM_fail_8 : decode bM_fail 8 = .ok (.iadd, 1) := by decide +kernel
theorem dM_fail_9 : decode bM_fail 9 = .ok (.iastore, 1) := by decide +kernel
theorem dM_fail_10 : decode bM_fail 10 = .ok (.aload_n 0, 1) := by decide +kernel
theorem dM_fail_11 : decode bM_fail 11 = .ok (.getfield 54, 3) := by decide +kernel
theorem dM_fail_14 : decode bM_fail 14 = .ok (.iconst 3, 1) := by decide +kernel
theorem dM_fail_15 : decode bM_fail 15 = .ok (.aload_n 0, 1) := by decide +kernel
theorem dM_fail_16 : decode bM_fail 16 = .ok (.getfield 151, 3) := by decide +kernel
theorem dM_fail_19 : decode bM_fail 19 = .ok (.bipush 7, 2) := by decide +kernel
theorem dM_fail_21 : decode bM_fail 21 = .ok (.iand, 1) := by decide +kernel
theorem dM_fail_22 : decode bM_fail 22 = .ok (.imul, 1) := by decide +kernel
theorem dM_fail_23 : decode bM_fail 23 = .ok (.iload_n 1, 1) := by decide +kernel
theorem dM_fail_24 : decode bM_fail 24 = .ok (.iastore, 1) := by decide +kernel
theorem dM_fail_25 : decode bM_fail 25 = .ok (.aload_n 0, 1) := by decide +kernel
theorem dM_fail_26 : decode bM_fail 26 = .ok (.getfield 54, 3) := by decide +kernel
theorem dM_fail_29 : decode bM_fail 29 = .ok (.iconst 3, 1) := by decide +kernel
theorem dM_fail_30 : decode bM_fail 30 = .ok (.aload_n 0, 1) := by decide +kernel
theorem dM_fail_31 : decode bM_fail 31 = .ok (.getfield 151, 3) := by decide +kernel
theorem dM_fail_34 : decode bM_fail 34 = .ok (.bipush 7, 2) := by decide +kernel
theorem dM_fail_36 : decode bM_fail 36 = .ok (.iand, 1) := by decide +kernel
theorem dM_fail_37 : decode bM_fail 37 = .ok (.imul, 1) := by decide +kernel
theorem dM_fail_38 : decode bM_fail 38 = .ok (.iconst 1, 1) := by decide +kernel
theorem dM_fail_39 : decode bM_fail 39 = .ok (.iadd, 1) := by decide +kernel
theorem dM_fail_40 : decode bM_fail 40 = .ok (.iload_n 2, 1) := by decide +kernel
theorem dM_fail_41 : decode bM_fail 41 = .ok (.iastore, 1) := by decide +kernel
theorem dM_fail_42 : decode bM_fail 42 = .ok (.aload_n 0, 1) := by decide +kernel
theorem dM_fail_43 : decode bM_fail 43 = .ok (.getfield 54, 3) := by decide +kernel
theorem dM_fail_46 : decode bM_fail 46 = .ok (.iconst 3, 1) := by decide +kernel
theorem dM_fail_47 : decode bM_fail 47 = .ok (.aload_n 0, 1) := by decide +kernel
theorem dM_fail_48 : decode bM_fail 48 = .ok (.getfield 151, 3) := by decide +kernel
theorem dM_fail_51 : decode bM_fail 51 = .ok (.bipush 7, 2) := by decide +kernel
theorem dM_fail_53 : decode bM_fail 53 = .ok (.iand, 1) := by decide +kernel
theorem dM_fail_54 : decode bM_fail 54 = .ok (.imul, 1) := by decide +kernel
theorem dM_fail_55 : decode bM_fail 55 = .ok (.iconst 2, 1) := by decide +kernel
theorem dM_fail_56 : decode bM_fail 56 = .ok (.iadd, 1) := by decide +kernel
theorem dM_fail_57 : decode bM_fail 57 = .ok (.aload_n 0, 1) := by decide +kernel
theorem dM_fail_58 : decode bM_fail 58 = .ok (.getfield 132, 3) := by decide +kernel
theorem dM_fail_61 : decode bM_fail 61 = .ok (.iastore, 1) := by decide +kernel
theorem dM_fail_62 : decode bM_fail 62 = .ok (.aload_n 0, 1) := by decide +kernel
theorem dM_fail_63 : decode bM_fail 63 = .ok (.dup, 1) := by decide +kernel
theorem dM_fail_64 : decode bM_fail 64 = .ok (.getfield 151, 3) := by decide +kernel
theorem dM_fail_67 : decode bM_fail 67 = .ok (.iconst 1, 1) := by decide +kernel
theorem dM_fail_68 : decode bM_fail 68 = .ok (.iadd, 1) := by decide +kernel
theorem dM_fail_69 : decode bM_fail 69 = .ok (.putfield 151, 3) := by decide +kernel
theorem dM_fail_72 : decode bM_fail 72 = .ok (.aload_n 0, 1) := by decide +kernel
theorem dM_fail_73 : decode bM_fail 73 = .ok (.getfield 44, 3) := by decide +kernel
theorem dM_fail_76 : decode bM_fail 76 = .ok (.iload_n 1, 1) := by decide +kernel
theorem dM_fail_77 : decode bM_fail 77 = .ok (.iaload, 1) := by decide +kernel
theorem dM_fail_78 : decode bM_fail 78 = .ok (.iconst 3, 1) := by decide +kernel
theorem dM_fail_79 : decode bM_fail 79 = .ok (.if_icmp .ge 4, 3) := by decide +kernel
theorem dM_fail_82 : decode bM_fail 82 = .ok (.return_, 1) := by decide +kernel
theorem dM_fail_83 : decode bM_fail 83 = .ok (.aload_n 0, 1) := by decide +kernel
theorem dM_fail_84 : decode bM_fail 84 = .ok (.getfield 50, 3) := by decide +kernel
theorem dM_fail_87 : decode bM_fail 87 = .ok (.iload_n 1, 1) := by decide +kernel
theorem dM_fail_88 : decode bM_fail 88 = .ok (.iconst 1, 1) := by decide +kernel
theorem dM_fail_89 : decode bM_fail 89 = .ok (.bastore, 1) := by decide +kernel
theorem dM_fail_90 : decode bM_fail 90 = .ok (.aload_n 0, 1) := by decide +kernel
theorem dM_fail_91 : decode bM_fail 91 = .ok (.bipush 60, 2) := by decide +kernel
theorem dM_fail_93 : decode bM_fail 93 = .ok (.iload_n 1, 1) := by decide +kernel
theorem dM_fail_94 : decode bM_fail 94 = .ok (.iadd, 1) := by decide +kernel
theorem dM_fail_95 : decode bM_fail 95 = .ok (.invokevirtual 108, 3) := by decide +kernel
theorem dM_fail_98 : decode bM_fail 98 = .ok (.return_, 1) := by decide +kernel
theorem dM_forgive_0 : decode bM_forgive 0 = .ok (.aload_n 0, 1) := by decide +kernel
theorem dM_forgive_1 : decode bM_forgive 1 = .ok (.iload_n 1, 1) := by decide +kernel
theorem dM_forgive_2 : decode bM_forgive 2 = .ok (.invokevirtual 160, 3) := by decide +kernel
theorem dM_forgive_5 : decode bM_forgive 5 = .ok (.ifCond .ne 12, 3) := by decide +kernel
theorem dM_forgive_8 : decode bM_forgive 8 = .ok (.aload_n 0, 1) := by decide +kernel
theorem dM_forgive_9 : decode bM_forgive 9 = .ok (.getfield 50, 3) := by decide +kernel
theorem dM_forgive_12 : decode bM_forgive 12 = .ok (.iload_n 1, 1) := by decide +kernel
theorem dM_forgive_13 : decode bM_forgive 13 = .ok (.baload, 1) := by decide +kernel
theorem dM_forgive_14 : decode bM_forgive 14 = .ok (.ifCond .ne 5, 3) := by decide +kernel
theorem dM_forgive_17 : decode bM_forgive 17 = .ok (.iconst (-1), 1) := by decide +kernel
theorem dM_forgive_18 : decode bM_forgive 18 = .ok (.ireturn, 1) := by decide +kernel
theorem dM_forgive_19 : decode bM_forgive 19 = .ok (.aload_n 0, 1) := by decide +kernel
theorem dM_forgive_20 : decode bM_forgive 20 = .ok (.getfield 50, 3) := by decide +kernel
theorem dM_forgive_23 : decode bM_forgive 23 = .ok (.iload_n 1, 1) := by decide +kernel
theorem dM_forgive_24 : decode bM_forgive 24 = .ok (.iconst 0, 1) := by decide +kernel
theorem dM_forgive_25 : decode bM_forgive 25 = .ok (.bastore, 1) := by decide +kernel
theorem dM_forgive_26 : decode bM_forgive 26 = .ok (.aload_n 0, 1) := by decide +kernel
theorem dM_forgive_27 : decode bM_forgive 27 = .ok (.getfield 44, 3) := by decide +kernel
theorem dM_forgive_30 : decode bM_forgive 30 = .ok (.iload_n 1, 1) := by decide +kernel
theorem dM_forgive_31 : decode bM_forgive 31 = .ok (.iconst 0, 1) := by decide +kernel
theorem dM_forgive_32 : decode bM_forgive 32 = .ok (.iastore, 1) := by decide +kernel
theorem dM_forgive_33 : decode bM_forgive 33 = .ok (.iconst 0, 1) := by decide +kernel
theorem dM_forgive_34 : decode bM_forgive 34 = .ok (.ireturn, 1) := by decide +kernel
theorem dM_noExtension_0 : decode bM_noExtension 0 = .ok (.iload_n 1, 1) := by decide +kernel
theorem dM_noExtension_1 : decode bM_noExtension 1 = .ok (.iconst 0, 1) := by decide +kernel
theorem dM_noExtension_2 : decode bM_noExtension 2 = .ok (.aload_n 0, 1) := by decide +kernel
theorem dM_noExtension_3 : decode bM_noExtension 3 = .ok (.getfield 85, 3) := by decide +kernel
theorem dM_noExtension_6 : decode bM_noExtension 6 = .ok (.iconst 1, 1) := by decide +kernel
theorem dM_noExtension_7 : decode bM_noExtension 7 = .ok (.isub, 1) := by decide +kernel
theorem dM_noExtension_8 : decode bM_noExtension 8 = .ok (.invokestatic 81, 3) := by decide +kernel
theorem dM_noExtension_11 : decode bM_noExtension 11 = .ok (.ifCond .eq 12, 3) := by decide +kernel
theorem dM_noExtension_14 : decode bM_noExtension 14 = .ok (.aload_n 0, 1) := by decide +kernel
theorem dM_noExtension_15 : decode bM_noExtension 15 = .ok (.getfield 28, 3) := by decide +kernel
theorem dM_noExtension_18 : decode bM_noExtension 18 = .ok (.iload_n 1, 1) := by decide +kernel
theorem dM_noExtension_19 : decode bM_noExtension 19 = .ok (.iaload, 1) := by decide +kernel
theorem dM_noExtension_20 : decode bM_noExtension 20 = .ok (.ifCond .ge 7, 3) := by decide +kernel
theorem dM_noExtension_23 : decode bM_noExtension 23 = .ok (.iconst 1, 1) := by decide +kernel
theorem dM_noExtension_24 : decode bM_noExtension 24 = .ok (.goto 4, 3) := by decide +kernel
theorem dM_noExtension_27 : decode bM_noExtension 27 = .ok (.iconst 0, 1) := by decide +kernel
theorem dM_noExtension_28 : decode bM_noExtension 28 = .ok (.ireturn, 1) := by decide +kernel
theorem dM_state_0 : decode bM_state 0 = .ok (.iload_n 1, 1) := by decide +kernel
theorem dM_state_1 : decode bM_state 1 = .ok (.iconst 0, 1) := by decide +kernel
theorem dM_state_2 : decode bM_state 2 = .ok (.bipush 7, 2) := by decide +kernel
theorem dM_state_4 : decode bM_state 4 = .ok (.invokestatic 81, 3) := by decide +kernel
theorem dM_state_7 : decode bM_state 7 = .ok (.ifCond .eq 12, 3) := by decide +kernel
theorem dM_state_10 : decode bM_state 10 = .ok (.aload_n 0, 1) := by decide +kernel
theorem dM_state_11 : decode bM_state 11 = .ok (.getfield 7, 3) := by decide +kernel
theorem dM_state_14 : decode bM_state 14 = .ok (.iload_n 1, 1) := by decide +kernel
theorem dM_state_15 : decode bM_state 15 = .ok (.iaload, 1) := by decide +kernel
theorem dM_state_16 : decode bM_state 16 = .ok (.goto 4, 3) := by decide +kernel
theorem dM_state_19 : decode bM_state 19 = .ok (.iconst (-1), 1) := by decide +kernel
theorem dM_state_20 : decode bM_state 20 = .ok (.ireturn, 1) := by decide +kernel
theorem dM_extension_0 : decode bM_extension 0 = .ok (.aload_n 0, 1) := by decide +kernel
theorem dM_extension_1 : decode bM_extension 1 = .ok (.iload_n 1, 1) := by decide +kernel
theorem dM_extension_2 : decode bM_extension 2 = .ok (.invokevirtual 160, 3) := by decide +kernel
theorem dM_extension_5 : decode bM_extension 5 = .ok (.ifCond .eq 5, 3) := by decide +kernel
theorem dM_extension_8 : decode bM_extension 8 = .ok (.iconst (-1), 1) := by decide +kernel
theorem dM_extension_9 : decode bM_extension 9 = .ok (.ireturn, 1) := by decide +kernel
theorem dM_extension_10 : decode bM_extension 10 = .ok (.iload_n 2, 1) := by decide +kernel
theorem dM_extension_11 : decode bM_extension 11 = .ok (.tableswitch 99 0 5 #[37, 44, 51, 58, 65, 72], 37) := by decide +kernel
theorem dM_extension_48 : decode bM_extension 48 = .ok (.aload_n 0, 1) := by decide +kernel
theorem dM_extension_49 : decode bM_extension 49 = .ok (.getfield 28, 3) := by decide +kernel
theorem dM_extension_52 : decode bM_extension 52 = .ok (.iload_n 1, 1) := by decide +kernel
theorem dM_extension_53 : decode bM_extension 53 = .ok (.iaload, 1) := by decide +kernel
theorem dM_extension_54 : decode bM_extension 54 = .ok (.ireturn, 1) := by decide +kernel
theorem dM_extension_55 : decode bM_extension 55 = .ok (.aload_n 0, 1) := by decide +kernel
theorem dM_extension_56 : decode bM_extension 56 = .ok (.getfield 31, 3) := by decide +kernel
theorem dM_extension_59 : decode bM_extension 59 = .ok (.iload_n 1, 1) := by decide +kernel
theorem dM_extension_60 : decode bM_extension 60 = .ok (.iaload, 1) := by decide +kernel
theorem dM_extension_61 : decode bM_extension 61 = .ok (.ireturn, 1) := by decide +kernel
theorem dM_extension_62 : decode bM_extension 62 = .ok (.aload_n 0, 1) := by decide +kernel
theorem dM_extension_63 : decode bM_extension 63 = .ok (.getfield 34, 3) := by decide +kernel
theorem dM_extension_66 : decode bM_extension 66 = .ok (.iload_n 1, 1) := by decide +kernel
theorem dM_extension_67 : decode bM_extension 67 = .ok (.iaload, 1) := by decide +kernel
theorem dM_extension_68 : decode bM_extension 68 = .ok (.ireturn, 1) := by decide +kernel
theorem dM_extension_69 : decode bM_extension 69 = .ok (.aload_n 0, 1) := by decide +kernel
theorem dM_extension_70 : decode bM_extension 70 = .ok (.getfield 44, 3) := by decide +kernel
theorem dM_extension_73 : decode bM_extension 73 = .ok (.iload_n 1, 1) := by decide +kernel
theorem dM_extension_74 : decode bM_extension 74 = .ok (.iaload, 1) := by decide +kernel
theorem dM_extension_75 : decode bM_extension 75 = .ok (.ireturn, 1) := by decide +kernel
theorem dM_extension_76 : decode bM_extension 76 = .ok (.aload_n 0, 1) := by decide +kernel
theorem dM_extension_77 : decode bM_extension 77 = .ok (.getfield 47, 3) := by decide +kernel
theorem dM_extension_80 : decode bM_extension 80 = .ok (.iload_n 1, 1) := by decide +kernel
theorem dM_extension_81 : decode bM_extension 81 = .ok (.iaload, 1) := by decide +kernel
theorem dM_extension_82 : decode bM_extension 82 = .ok (.ireturn, 1) := by decide +kernel
theorem dM_extension_83 : decode bM_extension 83 = .ok (.aload_n 0, 1) := by decide +kernel
theorem dM_extension_84 : decode bM_extension 84 = .ok (.getfield 50, 3) := by decide +kernel
theorem dM_extension_87 : decode bM_extension 87 = .ok (.iload_n 1, 1) := by decide +kernel
theorem dM_extension_88 : decode bM_extension 88 = .ok (.baload, 1) := by decide +kernel
theorem dM_extension_89 : decode bM_extension 89 = .ok (.ifCond .eq 7, 3) := by decide +kernel
theorem dM_extension_92 : decode bM_extension 92 = .ok (.iconst 2, 1) := by decide +kernel
theorem dM_extension_93 : decode bM_extension 93 = .ok (.goto 16, 3) := by decide +kernel
theorem dM_extension_96 : decode bM_extension 96 = .ok (.aload_n 0, 1) := by decide +kernel
theorem dM_extension_97 : decode bM_extension 97 = .ok (.iload_n 1, 1) := by decide +kernel
theorem dM_extension_98 : decode bM_extension 98 = .ok (.invokevirtual 122, 3) := by decide +kernel
theorem dM_extension_101 : decode bM_extension 101 = .ok (.ifCond .eq 7, 3) := by decide +kernel
theorem dM_extension_104 : decode bM_extension 104 = .ok (.iconst 1, 1) := by decide +kernel
theorem dM_extension_105 : decode bM_extension 105 = .ok (.goto 4, 3) := by decide +kernel
theorem dM_extension_108 : decode bM_extension 108 = .ok (.iconst 0, 1) := by decide +kernel
theorem dM_extension_109 : decode bM_extension 109 = .ok (.ireturn, 1) := by decide +kernel
theorem dM_extension_110 : decode bM_extension 110 = .ok (.iconst (-1), 1) := by decide +kernel
theorem dM_extension_111 : decode bM_extension 111 = .ok (.ireturn, 1) := by decide +kernel
theorem dM_at_0 : decode bM_at 0 = .ok (.iload_n 1, 1) := by decide +kernel
theorem dM_at_1 : decode bM_at 1 = .ok (.iconst 0, 1) := by decide +kernel
theorem dM_at_2 : decode bM_at 2 = .ok (.iconst 2, 1) := by decide +kernel
theorem dM_at_3 : decode bM_at 3 = .ok (.invokestatic 81, 3) := by decide +kernel
theorem dM_at_6 : decode bM_at 6 = .ok (.ifCond .eq 7, 3) := by decide +kernel
theorem dM_at_9 : decode bM_at 9 = .ok (.iload_n 2, 1) := by decide +kernel
theorem dM_at_10 : decode bM_at 10 = .ok (.ifCond .ge 5, 3) := by decide +kernel
theorem dM_at_13 : decode bM_at 13 = .ok (.iconst (-1), 1) := by decide +kernel
theorem dM_at_14 : decode bM_at 14 = .ok (.ireturn, 1) := by decide +kernel
theorem dM_at_15 : decode bM_at 15 = .ok (.aload_n 0, 1) := by decide +kernel
theorem dM_at_16 : decode bM_at 16 = .ok (.iload_n 1, 1) := by decide +kernel
theorem dM_at_17 : decode bM_at 17 = .ok (.iload_n 2, 1) := by decide +kernel
theorem dM_at_18 : decode bM_at 18 = .ok (.invokevirtual 128, 3) := by decide +kernel
theorem dM_at_21 : decode bM_at 21 = .ok (.istore_n 3, 1) := by decide +kernel
theorem dM_at_22 : decode bM_at 22 = .ok (.iload_n 3, 1) := by decide +kernel
theorem dM_at_23 : decode bM_at 23 = .ok (.ifCond .ge 7, 3) := by decide +kernel
theorem dM_at_26 : decode bM_at 26 = .ok (.iconst (-1), 1) := by decide +kernel
theorem dM_at_27 : decode bM_at 27 = .ok (.goto 4, 3) := by decide +kernel
theorem dM_at_30 : decode bM_at 30 = .ok (.iload_n 3, 1) := by decide +kernel
theorem dM_at_31 : decode bM_at 31 = .ok (.ireturn, 1) := by decide +kernel
theorem dM_weight_0 : decode bM_weight 0 = .ok (.lconst 0, 1) := by decide +kernel
theorem dM_weight_1 : decode bM_weight 1 = .ok (.lstore_n 2, 1) := by decide +kernel
theorem dM_weight_2 : decode bM_weight 2 = .ok (.iconst 0, 1) := by decide +kernel
theorem dM_weight_3 : decode bM_weight 3 = .ok (.istore 4, 2) := by decide +kernel
theorem dM_weight_5 : decode bM_weight 5 = .ok (.iload 4, 2) := by decide +kernel
theorem dM_weight_7 : decode bM_weight 7 = .ok (.aload_n 0, 1) := by decide +kernel
theorem dM_weight_8 : decode bM_weight 8 = .ok (.getfield 85, 3) := by decide +kernel
theorem dM_weight_11 : decode bM_weight 11 = .ok (.if_icmp .ge 39, 3) := by decide +kernel
theorem dM_weight_14 : decode bM_weight 14 = .ok (.aload_n 0, 1) := by decide +kernel
theorem dM_weight_15 : decode bM_weight 15 = .ok (.iload 4, 2) := by decide +kernel
theorem dM_weight_17 : decode bM_weight 17 = .ok (.invokevirtual 122, 3) := by decide +kernel
theorem dM_weight_20 : decode bM_weight 20 = .ok (.ifCond .eq 24, 3) := by decide +kernel
theorem dM_weight_23 : decode bM_weight 23 = .ok (.aload_n 0, 1) := by decide +kernel
theorem dM_weight_24 : decode bM_weight 24 = .ok (.getfield 31, 3) := by decide +kernel
theorem dM_weight_27 : decode bM_weight 27 = .ok (.iload 4, 2) := by decide +kernel
theorem dM_weight_29 : decode bM_weight 29 = .ok (.iaload, 1) := by decide +kernel
theorem dM_weight_30 : decode bM_weight 30 = .ok (.iload_n 1, 1) := by decide +kernel
theorem dM_weight_31 : decode bM_weight 31 = .ok (.if_icmp .ne 13, 3) := by decide +kernel
theorem dM_weight_34 : decode bM_weight 34 = .ok (.lload_n 2, 1) := by decide +kernel
theorem dM_weight_35 : decode bM_weight 35 = .ok (.aload_n 0, 1) := by decide +kernel
theorem dM_weight_36 : decode bM_weight 36 = .ok (.getfield 40, 3) := by decide +kernel
theorem dM_weight_39 : decode bM_weight 39 = .ok (.iload 4, 2) := by decide +kernel
theorem dM_weight_41 : decode bM_weight 41 = .ok (.laload, 1) := by decide +kernel
theorem dM_weight_42 : decode bM_weight 42 = .ok (.ladd, 1) := by decide +kernel
theorem dM_weight_43 : decode bM_weight 43 = .ok (.lstore_n 2, 1) := by decide +kernel
theorem dM_weight_44 : decode bM_weight 44 = .ok (.iinc 4 1, 3) := by decide +kernel
theorem dM_weight_47 : decode bM_weight 47 = .ok (.goto (-42), 3) := by decide +kernel
theorem dM_weight_50 : decode bM_weight 50 = .ok (.lload_n 2, 1) := by decide +kernel
theorem dM_weight_51 : decode bM_weight 51 = .ok (.l2d, 1) := by decide +kernel
theorem dM_weight_52 : decode bM_weight 52 = .ok (.ldc2_w 100, 3) := by decide +kernel
theorem dM_weight_55 : decode bM_weight 55 = .ok (.ddiv, 1) := by decide +kernel
theorem dM_weight_56 : decode bM_weight 56 = .ok (.dreturn, 1) := by decide +kernel
theorem dM_ordinal_0 : decode bM_ordinal 0 = .ok (.aload_n 0, 1) := by decide +kernel
theorem dM_ordinal_1 : decode bM_ordinal 1 = .ok (.iload_n 1, 1) := by decide +kernel
theorem dM_ordinal_2 : decode bM_ordinal 2 = .ok (.invokevirtual 160, 3) := by decide +kernel
theorem dM_ordinal_5 : decode bM_ordinal 5 = .ok (.ifCond .eq 7, 3) := by decide +kernel
theorem dM_ordinal_8 : decode bM_ordinal 8 = .ok (.dconst 0, 1) := by decide +kernel
theorem dM_ordinal_9 : decode bM_ordinal 9 = .ok (.goto 14, 3) := by decide +kernel
theorem dM_ordinal_12 : decode bM_ordinal 12 = .ok (.aload_n 0, 1) := by decide +kernel
theorem dM_ordinal_13 : decode bM_ordinal 13 = .ok (.getfield 40, 3) := by decide +kernel
theorem dM_ordinal_16 : decode bM_ordinal 16 = .ok (.iload_n 1, 1) := by decide +kernel
theorem dM_ordinal_17 : decode bM_ordinal 17 = .ok (.laload, 1) := by decide +kernel
theorem dM_ordinal_18 : decode bM_ordinal 18 = .ok (.l2d, 1) := by decide +kernel
theorem dM_ordinal_19 : decode bM_ordinal 19 = .ok (.ldc2_w 100, 3) := by decide +kernel
theorem dM_ordinal_22 : decode bM_ordinal 22 = .ok (.ddiv, 1) := by decide +kernel
theorem dM_ordinal_23 : decode bM_ordinal 23 = .ok (.dreturn, 1) := by decide +kernel
theorem dM_fault_0 : decode bM_fault 0 = .ok (.iload_n 1, 1) := by decide +kernel
theorem dM_fault_1 : decode bM_fault 1 = .ok (.iconst 0, 1) := by decide +kernel
theorem dM_fault_2 : decode bM_fault 2 = .ok (.bipush 7, 2) := by decide +kernel
theorem dM_fault_4 : decode bM_fault 4 = .ok (.invokestatic 81, 3) := by decide +kernel
theorem dM_fault_7 : decode bM_fault 7 = .ok (.ifCond .eq 20, 3) := by decide +kernel
theorem dM_fault_10 : decode bM_fault 10 = .ok (.iload_n 1, 1) := by decide +kernel
theorem dM_fault_11 : decode bM_fault 11 = .ok (.aload_n 0, 1) := by decide +kernel
theorem dM_fault_12 : decode bM_fault 12 = .ok (.getfield 151, 3) := by decide +kernel
theorem dM_fault_15 : decode bM_fault 15 = .ok (.if_icmp .ge 12, 3) := by decide +kernel
theorem dM_fault_18 : decode bM_fault 18 = .ok (.iload_n 2, 1) := by decide +kernel
theorem dM_fault_19 : decode bM_fault 19 = .ok (.iconst 0, 1) := by decide +kernel
theorem dM_fault_20 : decode bM_fault 20 = .ok (.iconst 2, 1) := by decide +kernel
theorem dM_fault_21 : decode bM_fault 21 = .ok (.invokestatic 81, 3) := by decide +kernel
theorem dM_fault_24 : decode bM_fault 24 = .ok (.ifCond .ne 5, 3) := by decide +kernel
theorem dM_fault_27 : decode bM_fault 27 = .ok (.iconst (-1), 1) := by decide +kernel
theorem dM_fault_28 : decode bM_fault 28 = .ok (.ireturn, 1) := by decide +kernel
theorem dM_fault_29 : decode bM_fault 29 = .ok (.aload_n 0, 1) := by decide +kernel
theorem dM_fault_30 : decode bM_fault 30 = .ok (.getfield 54, 3) := by decide +kernel
theorem dM_fault_33 : decode bM_fault 33 = .ok (.iconst 3, 1) := by decide +kernel
theorem dM_fault_34 : decode bM_fault 34 = .ok (.aload_n 0, 1) := by decide +kernel
theorem dM_fault_35 : decode bM_fault 35 = .ok (.getfield 151, 3) := by decide +kernel
theorem dM_fault_38 : decode bM_fault 38 = .ok (.iconst 1, 1) := by decide +kernel
theorem dM_fault_39 : decode bM_fault 39 = .ok (.isub, 1) := by decide +kernel
theorem dM_fault_40 : decode bM_fault 40 = .ok (.iload_n 1, 1) := by decide +kernel
theorem dM_fault_41 : decode bM_fault 41 = .ok (.isub, 1) := by decide +kernel
theorem dM_fault_42 : decode bM_fault 42 = .ok (.bipush 7, 2) := by decide +kernel
theorem dM_fault_44 : decode bM_fault 44 = .ok (.iand, 1) := by decide +kernel
theorem dM_fault_45 : decode bM_fault 45 = .ok (.imul, 1) := by decide +kernel
theorem dM_fault_46 : decode bM_fault 46 = .ok (.iload_n 2, 1) := by decide +kernel
theorem dM_fault_47 : decode bM_fault 47 = .ok (.iadd, 1) := by decide +kernel
theorem dM_fault_48 : decode bM_fault 48 = .ok (.iaload, 1) := by decide +kernel
theorem dM_fault_49 : decode bM_fault 49 = .ok (.ireturn, 1) := by decide +kernel
theorem dM_event_0 : decode bM_event 0 = .ok (.iload_n 1, 1) := by decide +kernel
theorem dM_event_1 : decode bM_event 1 = .ok (.iconst 0, 1) := by decide +kernel
theorem dM_event_2 : decode bM_event 2 = .ok (.bipush 15, 2) := by decide +kernel
theorem dM_event_4 : decode bM_event 4 = .ok (.invokestatic 81, 3) := by decide +kernel
theorem dM_event_7 : decode bM_event 7 = .ok (.ifCond .eq 30, 3) := by decide +kernel
theorem dM_event_10 : decode bM_event 10 = .ok (.iload_n 1, 1) := by decide +kernel
theorem dM_event_11 : decode bM_event 11 = .ok (.aload_n 0, 1) := by decide +kernel
theorem dM_event_12 : decode bM_event 12 = .ok (.getfield 89, 3) := by decide +kernel
theorem dM_event_15 : decode bM_event 15 = .ok (.if_icmp .ge 22, 3) := by decide +kernel
theorem dM_event_18 : decode bM_event 18 = .ok (.aload_n 0, 1) := by decide +kernel
theorem dM_event_19 : decode bM_event 19 = .ok (.getfield 57, 3) := by decide +kernel
theorem dM_event_22 : decode bM_event 22 = .ok (.aload_n 0, 1) := by decide +kernel
theorem dM_event_23 : decode bM_event 23 = .ok (.getfield 89, 3) := by decide +kernel
theorem dM_event_26 : decode bM_event 26 = .ok (.iconst 1, 1) := by decide +kernel
theorem dM_event_27 : decode bM_event 27 = .ok (.isub, 1) := by decide +kernel
theorem dM_event_28 : decode bM_event 28 = .ok (.iload_n 1, 1) := by decide +kernel
theorem dM_event_29 : decode bM_event 29 = .ok (.isub, 1) := by decide +kernel
theorem dM_event_30 : decode bM_event 30 = .ok (.bipush 15, 2) := by decide +kernel
theorem dM_event_32 : decode bM_event 32 = .ok (.iand, 1) := by decide +kernel
theorem dM_event_33 : decode bM_event 33 = .ok (.iaload, 1) := by decide +kernel
theorem dM_event_34 : decode bM_event 34 = .ok (.goto 4, 3) := by decide +kernel
theorem dM_event_37 : decode bM_event 37 = .ok (.iconst (-1), 1) := by decide +kernel
theorem dM_event_38 : decode bM_event 38 = .ok (.ireturn, 1) := by decide +kernel
theorem dM_count_0 : decode bM_count 0 = .ok (.iconst 0, 1) := by decide +kernel
theorem dM_count_1 : decode bM_count 1 = .ok (.istore_n 2, 1) := by decide +kernel
theorem dM_count_2 : decode bM_count 2 = .ok (.iconst 0, 1) := by decide +kernel
theorem dM_count_3 : decode bM_count 3 = .ok (.istore_n 3, 1) := by decide +kernel
theorem dM_count_4 : decode bM_count 4 = .ok (.iload_n 3, 1) := by decide +kernel
theorem dM_count_5 : decode bM_count 5 = .ok (.aload_n 0, 1) := by decide +kernel
theorem dM_count_6 : decode bM_count 6 = .ok (.getfield 85, 3) := by decide +kernel
theorem dM_count_9 : decode bM_count 9 = .ok (.if_icmp .ge 30, 3) := by decide +kernel
theorem dM_count_12 : decode bM_count 12 = .ok (.aload_n 0, 1) := by decide +kernel
theorem dM_count_13 : decode bM_count 13 = .ok (.getfield 28, 3) := by decide +kernel
theorem dM_count_16 : decode bM_count 16 = .ok (.iload_n 3, 1) := by decide +kernel
theorem dM_count_17 : decode bM_count 17 = .ok (.iaload, 1) := by decide +kernel
theorem dM_count_18 : decode bM_count 18 = .ok (.ifCond .lt 15, 3) := by decide +kernel
theorem dM_count_21 : decode bM_count 21 = .ok (.aload_n 0, 1) := by decide +kernel
theorem dM_count_22 : decode bM_count 22 = .ok (.getfield 50, 3) := by decide +kernel
theorem dM_count_25 : decode bM_count 25 = .ok (.iload_n 3, 1) := by decide +kernel
theorem dM_count_26 : decode bM_count 26 = .ok (.baload, 1) := by decide +kernel
theorem dM_count_27 : decode bM_count 27 = .ok (.ifCond .eq 6, 3) := by decide +kernel
theorem dM_count_30 : decode bM_count 30 = .ok (.iinc 2 1, 3) := by decide +kernel
theorem dM_count_33 : decode bM_count 33 = .ok (.iinc 3 1, 3) := by decide +kernel
theorem dM_count_36 : decode bM_count 36 = .ok (.goto (-32), 3) := by decide +kernel
theorem dM_count_39 : decode bM_count 39 = .ok (.iload_n 1, 1) := by decide +kernel
theorem dM_count_40 : decode bM_count 40 = .ok (.tableswitch 58 0 4 #[36, 41, 46, 51, 56], 36) := by decide +kernel
theorem dM_count_76 : decode bM_count 76 = .ok (.aload_n 0, 1) := by decide +kernel
theorem dM_count_77 : decode bM_count 77 = .ok (.invokevirtual 118, 3) := by decide +kernel
theorem dM_count_80 : decode bM_count 80 = .ok (.ireturn, 1) := by decide +kernel
theorem dM_count_81 : decode bM_count 81 = .ok (.aload_n 0, 1) := by decide +kernel
theorem dM_count_82 : decode bM_count 82 = .ok (.getfield 85, 3) := by decide +kernel
theorem dM_count_85 : decode bM_count 85 = .ok (.ireturn, 1) := by decide +kernel
theorem dM_count_86 : decode bM_count 86 = .ok (.aload_n 0, 1) := by decide +kernel
theorem dM_count_87 : decode bM_count 87 = .ok (.getfield 151, 3) := by decide +kernel
theorem dM_count_90 : decode bM_count 90 = .ok (.ireturn, 1) := by decide +kernel
theorem dM_count_91 : decode bM_count 91 = .ok (.aload_n 0, 1) := by decide +kernel
theorem dM_count_92 : decode bM_count 92 = .ok (.getfield 89, 3) := by decide +kernel
theorem dM_count_95 : decode bM_count 95 = .ok (.ireturn, 1) := by decide +kernel
theorem dM_count_96 : decode bM_count 96 = .ok (.iload_n 2, 1) := by decide +kernel
theorem dM_count_97 : decode bM_count 97 = .ok (.ireturn, 1) := by decide +kernel
theorem dM_count_98 : decode bM_count 98 = .ok (.iconst (-1), 1) := by decide +kernel
theorem dM_count_99 : decode bM_count 99 = .ok (.ireturn, 1) := by decide +kernel
