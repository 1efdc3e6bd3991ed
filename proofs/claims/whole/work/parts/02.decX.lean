theorem dX_init_0 : decode bX_init 0 = .ok (.aload_n 0, 1) := by decide +kernel
theorem dX_init_1 : decode bX_init 1 = .ok (.invokespecial 1, 3) := by decide +kernel
theorem dX_init_4 : decode bX_init 4 = .ok (.aload_n 0, 1) := by decide +kernel
theorem dX_init_5 : decode bX_init 5 = .ok (.bipush 8, 2) := by decide +kernel
theorem dX_init_7 : decode bX_init 7 = .ok (.anewarray 9, 3) := by decide +kernel
theorem dX_init_10 : decode bX_init 10 = .ok (.putfield 11, 3) := by decide +kernel
theorem dX_init_13 : decode bX_init 13 = .ok (.aload_n 0, 1) := by decide +kernel
theorem dX_init_14 : decode bX_init 14 = .ok (.bipush 16, 2) := by decide +kernel
theorem dX_init_16 : decode bX_init 16 = .ok (.anewarray 15, 3) := by decide +kernel
theorem dX_init_19 : decode bX_init 19 = .ok (.putfield 17, 3) := by decide +kernel
theorem dX_init_22 : decode bX_init 22 = .ok (.aload_n 0, 1) := by decide +kernel
theorem dX_init_23 : decode bX_init 23 = .ok (.bipush 16, 2) := by decide +kernel
theorem dX_init_25 : decode bX_init 25 = .ok (.anewarray 15, 3) := by decide +kernel
theorem dX_init_28 : decode bX_init 28 = .ok (.putfield 21, 3) := by decide +kernel
theorem dX_init_31 : decode bX_init 31 = .ok (.aload_n 0, 1) := by decide +kernel
theorem dX_init_32 : decode bX_init 32 = .ok (.new 24, 3) := by decide +kernel
theorem dX_init_35 : decode bX_init 35 = .ok (.dup, 1) := by decide +kernel
theorem dX_init_36 : decode bX_init 36 = .ok (.bipush 16, 2) := by decide +kernel
theorem dX_init_38 : decode bX_init 38 = .ok (.invokespecial 26, 3) := by decide +kernel
theorem dX_init_41 : decode bX_init 41 = .ok (.putfield 29, 3) := by decide +kernel
theorem dX_init_44 : decode bX_init 44 = .ok (.aload_n 0, 1) := by decide +kernel
theorem dX_init_45 : decode bX_init 45 = .ok (.new 24, 3) := by decide +kernel
theorem dX_init_48 : decode bX_init 48 = .ok (.dup, 1) := by decide +kernel
theorem dX_init_49 : decode bX_init 49 = .ok (.bipush 8, 2) := by decide +kernel
theorem dX_init_51 : decode bX_init 51 = .ok (.invokespecial 26, 3) := by decide +kernel
theorem dX_init_54 : decode bX_init 54 = .ok (.putfield 33, 3) := by decide +kernel
theorem dX_init_57 : decode bX_init 57 = .ok (.aload_n 0, 1) := by decide +kernel
theorem dX_init_58 : decode bX_init 58 = .ok (.new 24, 3) := by decide +kernel
theorem dX_init_61 : decode bX_init 61 = .ok (.dup, 1) := by decide +kernel
theorem dX_init_62 : decode bX_init 62 = .ok (.bipush 8, 2) := by decide +kernel
theorem dX_init_64 : decode bX_init 64 = .ok (.invokespecial 26, 3) := by decide +kernel
theorem dX_init_67 : decode bX_init 67 = .ok (.putfield 36, 3) := by decide +kernel
theorem dX_init_70 : decode bX_init 70 = .ok (.aload_n 0, 1) := by decide +kernel
theorem dX_init_71 : decode bX_init 71 = .ok (.new 24, 3) := by decide +kernel
theorem dX_init_74 : decode bX_init 74 = .ok (.dup, 1) := by decide +kernel
theorem dX_init_75 : decode bX_init 75 = .ok (.bipush 8, 2) := by decide +kernel
theorem dX_init_77 : decode bX_init 77 = .ok (.invokespecial 26, 3) := by decide +kernel
theorem dX_init_80 : decode bX_init 80 = .ok (.putfield 39, 3) := by decide +kernel
theorem dX_init_83 : decode bX_init 83 = .ok (.iconst 0, 1) := by decide +kernel
theorem dX_init_84 : decode bX_init 84 = .ok (.istore_n 1, 1) := by decide +kernel
theorem dX_init_85 : decode bX_init 85 = .ok (.iload_n 1, 1) := by decide +kernel
theorem dX_init_86 : decode bX_init 86 = .ok (.bipush 8, 2) := by decide +kernel
theorem dX_init_88 : decode bX_init 88 = .ok (.if_icmp .ge 23, 3) := by decide +kernel
theorem dX_init_91 : decode bX_init 91 = .ok (.aload_n 0, 1) := by decide +kernel
theorem dX_init_92 : decode bX_init 92 = .ok (.getfield 11, 3) := by decide +kernel
theorem dX_init_95 : decode bX_init 95 = .ok (.iload_n 1, 1) := by decide +kernel
theorem dX_init_96 : decode bX_init 96 = .ok (.new 9, 3) := by decide +kernel
theorem dX_init_99 : decode bX_init 99 = .ok (.dup, 1) := by decide +kernel
theorem dX_init_100 : decode bX_init 100 = .ok (.iload_n 1, 1) := by decide +kernel
theorem dX_init_101 : decode bX_init 101 = .ok (.invokespecial 42, 3) := by decide +kernel
theorem dX_init_104 : decode bX_init 104 = .ok (.aastore, 1) := by decide +kernel
theorem dX_init_105 : decode bX_init 105 = .ok (.iinc 1 1, 3) := by decide +kernel
theorem dX_init_108 : decode bX_init 108 = .ok (.goto (-23), 3) := by decide +kernel
theorem dX_init_111 : decode bX_init 111 = .ok (.iconst 0, 1) := by decide +kernel
theorem dX_init_112 : decode bX_init 112 = .ok (.istore_n 1, 1) := by decide +kernel
theorem dX_init_113 : decode bX_init 113 = .ok (.iload_n 1, 1) := by decide +kernel
theorem dX_init_114 : decode bX_init 114 = .ok (.bipush 16, 2) := by decide +kernel
theorem dX_init_116 : decode bX_init 116 = .ok (.if_icmp .ge 35, 3) := by decide +kernel
theorem dX_init_119 : decode bX_init 119 = .ok (.aload_n 0, 1) := by decide +kernel
theorem dX_init_120 : decode bX_init 120 = .ok (.getfield 17, 3) := by decide +kernel
theorem dX_init_123 : decode bX_init 123 = .ok (.iload_n 1, 1) := by decide +kernel
theorem dX_init_124 : decode bX_init 124 = .ok (.new 15, 3) := by decide +kernel
theorem dX_init_127 : decode bX_init 127 = .ok (.dup, 1) := by decide +kernel
theorem dX_init_128 : decode bX_init 128 = .ok (.iload_n 1, 1) := by decide +kernel
theorem dX_init_129 : decode bX_init 129 = .ok (.invokespecial 43, 3) := by decide +kernel
theorem dX_init_132 : decode bX_init 132 = .ok (.aastore, 1) := by decide +kernel
theorem dX_init_133 : decode bX_init 133 = .ok (.aload_n 0, 1) := by decide +kernel
theorem dX_init_134 : decode bX_init 134 = .ok (.getfield 21, 3) := by decide +kernel
theorem dX_init_137 : decode bX_init 137 = .ok (.iload_n 1, 1) := by decide +kernel
theorem dX_init_138 : decode bX_init 138 = .ok (.aload_n 0, 1) := by decide +kernel
theorem dX_init_139 : decode bX_init 139 = .ok (.getfield 17, 3) := by decide +kernel
theorem dX_init_142 : decode bX_init 142 = .ok (.iload_n 1, 1) := by decide +kernel
theorem dX_init_143 : decode bX_init 143 = .ok (.aaload, 1) := by decide +kernel
theorem dX_init_144 : decode bX_init 144 = .ok (.aastore, 1) := by decide +kernel
theorem dX_init_145 : decode bX_init 145 = .ok (.iinc 1 1, 3) := by decide +kernel
theorem dX_init_148 : decode bX_init 148 = .ok (.goto (-35), 3) := by decide +kernel
theorem dX_init_151 : decode bX_init 151 = .ok (.return_, 1) := by decide +kernel
theorem dH_init_0 : decode bH_init 0 = .ok (.aload_n 0, 1) := by decide +kernel
theorem dH_init_1 : decode bH_init 1 = .ok (.invokespecial 3, 3) := by decide +kernel
theorem dH_init_4 : decode bH_init 4 = .ok (.aload_n 0, 1) := by decide +kernel
theorem dH_init_5 : decode bH_init 5 = .ok (.bipush 16, 2) := by decide +kernel
theorem dH_init_7 : decode bH_init 7 = .ok (.newarray .int, 2) := by decide +kernel
theorem dH_init_9 : decode bH_init 9 = .ok (.putfield 9, 3) := by decide +kernel
theorem dH_init_12 : decode bH_init 12 = .ok (.aload_n 0, 1) := by decide +kernel
theorem dH_init_13 : decode bH_init 13 = .ok (.iload_n 1, 1) := by decide +kernel
theorem dH_init_14 : decode bH_init 14 = .ok (.putfield 15, 3) := by decide +kernel
theorem dH_init_17 : decode bH_init 17 = .ok (.return_, 1) := by decide +kernel
theorem dP_init_0 : decode bP_init 0 = .ok (.aload_n 0, 1) := by decide +kernel
theorem dP_init_1 : decode bP_init 1 = .ok (.invokespecial 3, 3) := by decide +kernel
theorem dP_init_4 : decode bP_init 4 = .ok (.aload_n 0, 1) := by decide +kernel
theorem dP_init_5 : decode bP_init 5 = .ok (.iload_n 1, 1) := by decide +kernel
theorem dP_init_6 : decode bP_init 6 = .ok (.putfield 9, 3) := by decide +kernel
theorem dP_init_9 : decode bP_init 9 = .ok (.return_, 1) := by decide +kernel
theorem dE_init_0 : decode bE_init 0 = .ok (.aload_n 0, 1) := by decide +kernel
theorem dE_init_1 : decode bE_init 1 = .ok (.invokespecial 3, 3) := by decide +kernel
theorem dE_init_4 : decode bE_init 4 = .ok (.aload_n 0, 1) := by decide +kernel
theorem dE_init_5 : decode bE_init 5 = .ok (.iload_n 1, 1) := by decide +kernel
theorem dE_init_6 : decode bE_init 6 = .ok (.putfield 9, 3) := by decide +kernel
theorem dE_init_9 : decode bE_init 9 = .ok (.return_, 1) := by decide +kernel
theorem dX_install_0 : decode bX_install 0 = .ok (.iload_n 1, 1) := by decide +kernel
theorem dX_install_1 : decode bX_install 1 = .ok (.invokestatic 44, 3) := by decide +kernel
theorem dX_install_4 : decode bX_install 4 = .ok (.ifCond .eq 15, 3) := by decide +kernel
theorem dX_install_7 : decode bX_install 7 = .ok (.aload_n 0, 1) := by decide +kernel
theorem dX_install_8 : decode bX_install 8 = .ok (.getfield 11, 3) := by decide +kernel
theorem dX_install_11 : decode bX_install 11 = .ok (.iload_n 1, 1) := by decide +kernel
theorem dX_install_12 : decode bX_install 12 = .ok (.aaload, 1) := by decide +kernel
theorem dX_install_13 : decode bX_install 13 = .ok (.getfield 48, 3) := by decide +kernel
theorem dX_install_16 : decode bX_install 16 = .ok (.ifCond .eq 5, 3) := by decide +kernel
theorem dX_install_19 : decode bX_install 19 = .ok (.iconst (-1), 1) := by decide +kernel
theorem dX_install_20 : decode bX_install 20 = .ok (.ireturn, 1) := by decide +kernel
theorem dX_install_21 : decode bX_install 21 = .ok (.aload_n 0, 1) := by decide +kernel
theorem dX_install_22 : decode bX_install 22 = .ok (.getfield 11, 3) := by decide +kernel
theorem dX_install_25 : decode bX_install 25 = .ok (.iload_n 1, 1) := by decide +kernel
theorem dX_install_26 : decode bX_install 26 = .ok (.aaload, 1) := by decide +kernel
theorem dX_install_27 : decode bX_install 27 = .ok (.iconst 1, 1) := by decide +kernel
theorem dX_install_28 : decode bX_install 28 = .ok (.putfield 48, 3) := by decide +kernel
theorem dX_install_31 : decode bX_install 31 = .ok (.iconst 0, 1) := by decide +kernel
theorem dX_install_32 : decode bX_install 32 = .ok (.ireturn, 1) := by decide +kernel
theorem dX_isPlugin_0 : decode bX_isPlugin 0 = .ok (.iload_n 0, 1) := by decide +kernel
theorem dX_isPlugin_1 : decode bX_isPlugin 1 = .ok (.ifCond .lt 13, 3) := by decide +kernel
theorem dX_isPlugin_4 : decode bX_isPlugin 4 = .ok (.iload_n 0, 1) := by decide +kernel
theorem dX_isPlugin_5 : decode bX_isPlugin 5 = .ok (.bipush 8, 2) := by decide +kernel
theorem dX_isPlugin_7 : decode bX_isPlugin 7 = .ok (.if_icmp .ge 7, 3) := by decide +kernel
theorem dX_isPlugin_10 : decode bX_isPlugin 10 = .ok (.iconst 1, 1) := by decide +kernel
theorem dX_isPlugin_11 : decode bX_isPlugin 11 = .ok (.goto 4, 3) := by decide +kernel
theorem dX_isPlugin_14 : decode bX_isPlugin 14 = .ok (.iconst 0, 1) := by decide +kernel
theorem dX_isPlugin_15 : decode bX_isPlugin 15 = .ok (.ireturn, 1) := by decide +kernel
theorem dX_uninstall_0 : decode bX_uninstall 0 = .ok (.iload_n 1, 1) := by decide +kernel
theorem dX_uninstall_1 : decode bX_uninstall 1 = .ok (.invokestatic 44, 3) := by decide +kernel
theorem dX_uninstall_4 : decode bX_uninstall 4 = .ok (.ifCond .eq 16, 3) := by decide +kernel
theorem dX_uninstall_7 : decode bX_uninstall 7 = .ok (.aload_n 0, 1) := by decide +kernel
theorem dX_uninstall_8 : decode bX_uninstall 8 = .ok (.getfield 11, 3) := by decide +kernel
theorem dX_uninstall_11 : decode bX_uninstall 11 = .ok (.iload_n 1, 1) := by decide +kernel
theorem dX_uninstall_12 : decode bX_uninstall 12 = .ok (.aaload, 1) := by decide +kernel
theorem dX_uninstall_13 : decode bX_uninstall 13 = .ok (.getfield 48, 3) := by decide +kernel
theorem dX_uninstall_16 : decode bX_uninstall 16 = .ok (.iconst 1, 1) := by decide +kernel
theorem dX_uninstall_17 : decode bX_uninstall 17 = .ok (.if_icmp .eq 5, 3) := by decide +kernel
theorem dX_uninstall_20 : decode bX_uninstall 20 = .ok (.iconst (-1), 1) := by decide +kernel
theorem dX_uninstall_21 : decode bX_uninstall 21 = .ok (.ireturn, 1) := by decide +kernel
theorem dX_uninstall_22 : decode bX_uninstall 22 = .ok (.aload_n 0, 1) := by decide +kernel
theorem dX_uninstall_23 : decode bX_uninstall 23 = .ok (.getfield 11, 3) := by decide +kernel
theorem dX_uninstall_26 : decode bX_uninstall 26 = .ok (.iload_n 1, 1) := by decide +kernel
theorem dX_uninstall_27 : decode bX_uninstall 27 = .ok (.aaload, 1) := by decide +kernel
theorem dX_uninstall_28 : decode bX_uninstall 28 = .ok (.invokevirtual 52, 3) := by decide +kernel
theorem dX_uninstall_31 : decode bX_uninstall 31 = .ok (.aload_n 0, 1) := by decide +kernel
theorem dX_uninstall_32 : decode bX_uninstall 32 = .ok (.getfield 21, 3) := by decide +kernel
theorem dX_uninstall_35 : decode bX_uninstall 35 = .ok (.astore_n 2, 1) := by decide +kernel
theorem dX_uninstall_36 : decode bX_uninstall 36 = .ok (.aload_n 2, 1) := by decide +kernel
theorem dX_uninstall_37 : decode bX_uninstall 37 = .ok (.arraylength, 1) := by decide +kernel
theorem dX_uninstall_38 : decode bX_uninstall 38 = .ok (.istore_n 3, 1) := by decide +kernel
theorem dX_uninstall_39 : decode bX_uninstall 39 = .ok (.iconst 0, 1) := by decide +kernel
theorem dX_uninstall_40 : decode bX_uninstall 40 = .ok (.istore 4, 2) := by decide +kernel
theorem dX_uninstall_42 : decode bX_uninstall 42 = .ok (.iload 4, 2) := by decide +kernel
theorem dX_uninstall_44 : decode bX_uninstall 44 = .ok (.iload_n 3, 1) := by decide +kernel
theorem dX_uninstall_45 : decode bX_uninstall 45 = .ok (.if_icmp .ge 30, 3) := by decide +kernel
theorem dX_uninstall_48 : decode bX_uninstall 48 = .ok (.aload_n 2, 1) := by decide +kernel
theorem dX_uninstall_49 : decode bX_uninstall 49 = .ok (.iload 4, 2) := by decide +kernel
theorem dX_uninstall_51 : decode bX_uninstall 51 = .ok (.aaload, 1) := by decide +kernel
theorem dX_uninstall_52 : decode bX_uninstall 52 = .ok (.astore 5, 2) := by decide +kernel
theorem dX_uninstall_54 : decode bX_uninstall 54 = .ok (.aload 5, 2) := by decide +kernel
theorem dX_uninstall_56 : decode bX_uninstall 56 = .ok (.getfield 55, 3) := by decide +kernel
theorem dX_uninstall_59 : decode bX_uninstall 59 = .ok (.iload_n 1, 1) := by decide +kernel
theorem dX_uninstall_60 : decode bX_uninstall 60 = .ok (.if_icmp .ne 9, 3) := by decide +kernel
theorem dX_uninstall_63 : decode bX_uninstall 63 = .ok (.aload 5, 2) := by decide +kernel
theorem dX_uninstall_65 : decode bX_uninstall 65 = .ok (.iconst 0, 1) := by decide +kernel
theorem dX_uninstall_66 : decode bX_uninstall 66 = .ok (.putfield 58, 3) := by decide +kernel
theorem dX_uninstall_69 : decode bX_uninstall 69 = .ok (.iinc 4 1, 3) := by decide +kernel
theorem dX_uninstall_72 : decode bX_uninstall 72 = .ok (.goto (-30), 3) := by decide +kernel
theorem dX_uninstall_75 : decode bX_uninstall 75 = .ok (.iconst 0, 1) := by decide +kernel
theorem dX_uninstall_76 : decode bX_uninstall 76 = .ok (.ireturn, 1) := by decide +kernel
theorem dP_clear_0 : decode bP_clear 0 = .ok (.aload_n 0, 1) := by decide +kernel
theorem dP_clear_1 : decode bP_clear 1 = .ok (.iconst 0, 1) := by decide +kernel
theorem dP_clear_2 : decode bP_clear 2 = .ok (.putfield 21, 3) := by decide +kernel
theorem dP_clear_5 : decode bP_clear 5 = .ok (.aload_n 0, 1) := by decide +kernel
theorem dP_clear_6 : decode bP_clear 6 = .ok (.iconst 0, 1) := by decide +kernel
theorem dP_clear_7 : decode bP_clear 7 = .ok (.putfield 15, 3) := by decide +kernel
theorem dP_clear_10 : decode bP_clear 10 = .ok (.aload_n 0, 1) := by decide +kernel
theorem dP_clear_11 : decode bP_clear 11 = .ok (.iconst 0, 1) := by decide +kernel
theorem dP_clear_12 : decode bP_clear 12 = .ok (.putfield 18, 3) := by decide +kernel
theorem dP_clear_15 : decode bP_clear 15 = .ok (.aload_n 0, 1) := by decide +kernel
theorem dP_clear_16 : decode bP_clear 16 = .ok (.iconst 0, 1) := by decide +kernel
theorem dP_clear_17 : decode bP_clear 17 = .ok (.putfield 24, 3) := by decide +kernel
theorem dP_clear_20 : decode bP_clear 20 = .ok (.return_, 1) := by decide +kernel
theorem dX_need_0 : decode bX_need 0 = .ok (.aload_n 0, 1) := by decide +kernel
theorem dX_need_1 : decode bX_need 1 = .ok (.iload_n 1, 1) := by decide +kernel
theorem dX_need_2 : decode bX_need 2 = .ok (.invokevirtual 62, 3) := by decide +kernel
theorem dX_need_5 : decode bX_need 5 = .ok (.ifCond .eq 15, 3) := by decide +kernel
theorem dX_need_8 : decode bX_need 8 = .ok (.iload_n 2, 1) := by decide +kernel
theorem dX_need_9 : decode bX_need 9 = .ok (.invokestatic 44, 3) := by decide +kernel
theorem dX_need_12 : decode bX_need 12 = .ok (.ifCond .eq 8, 3) := by decide +kernel
theorem dX_need_15 : decode bX_need 15 = .ok (.iload_n 1, 1) := by decide +kernel
theorem dX_need_16 : decode bX_need 16 = .ok (.iload_n 2, 1) := by decide +kernel
theorem dX_need_17 : decode bX_need 17 = .ok (.if_icmp .ne 5, 3) := by decide +kernel
theorem dX_need_20 : decode bX_need 20 = .ok (.iconst (-1), 1) := by decide +kernel
theorem dX_need_21 : decode bX_need 21 = .ok (.ireturn, 1) := by decide +kernel
theorem dX_need_22 : decode bX_need 22 = .ok (.aload_n 0, 1) := by decide +kernel
theorem dX_need_23 : decode bX_need 23 = .ok (.getfield 11, 3) := by decide +kernel
theorem dX_need_26 : decode bX_need 26 = .ok (.iload_n 1, 1) := by decide +kernel
theorem dX_need_27 : decode bX_need 27 = .ok (.aaload, 1) := by decide +kernel
theorem dX_need_28 : decode bX_need 28 = .ok (.astore 4, 2) := by decide +kernel
theorem dX_need_30 : decode bX_need 30 = .ok (.aload 4, 2) := by decide +kernel
theorem dX_need_32 : decode bX_need 32 = .ok (.iload_n 2, 1) := by decide +kernel
theorem dX_need_33 : decode bX_need 33 = .ok (.invokevirtual 65, 3) := by decide +kernel
theorem dX_need_36 : decode bX_need 36 = .ok (.ifCond .ne 12, 3) := by decide +kernel
theorem dX_need_39 : decode bX_need 39 = .ok (.aload 4, 2) := by decide +kernel
theorem dX_need_41 : decode bX_need 41 = .ok (.iload_n 2, 1) := by decide +kernel
theorem dX_need_42 : decode bX_need 42 = .ok (.invokevirtual 68, 3) := by decide +kernel
theorem dX_need_45 : decode bX_need 45 = .ok (.ifCond .eq 5, 3) := by decide +kernel
theorem dX_need_48 : decode bX_need 48 = .ok (.iconst (-1), 1) := by decide +kernel
theorem dX_need_49 : decode bX_need 49 = .ok (.ireturn, 1) := by decide +kernel
theorem dX_need_50 : decode bX_need 50 = .ok (.iload_n 3, 1) := by decide +kernel
theorem dX_need_51 : decode bX_need 51 = .ok (.ifCond .eq 19, 3) := by decide +kernel
theorem dX_need_54 : decode bX_need 54 = .ok (.aload 4, 2) := by decide +kernel
theorem dX_need_56 : decode bX_need 56 = .ok (.dup, 1) := by decide +kernel
theorem dX_need_57 : decode bX_need 57 = .ok (.getfield 71, 3) := by decide +kernel
theorem dX_need_60 : decode bX_need 60 = .ok (.iconst 1, 1) := by decide +kernel
theorem dX_need_61 : decode bX_need 61 = .ok (.iload_n 2, 1) := by decide +kernel
theorem dX_need_62 : decode bX_need 62 = .ok (.ishl, 1) := by decide +kernel
theorem dX_need_63 : decode bX_need 63 = .ok (.ior, 1) := by decide +kernel
theorem dX_need_64 : decode bX_need 64 = .ok (.putfield 71, 3) := by decide +kernel
theorem dX_need_67 : decode bX_need 67 = .ok (.goto 16, 3) := by decide +kernel
theorem dX_need_70 : decode bX_need 70 = .ok (.aload 4, 2) := by decide +kernel
theorem dX_need_72 : decode bX_need 72 = .ok (.dup, 1) := by decide +kernel
theorem dX_need_73 : decode bX_need 73 = .ok (.getfield 74, 3) := by decide +kernel
theorem dX_need_76 : decode bX_need 76 = .ok (.iconst 1, 1) := by decide +kernel
theorem dX_need_77 : decode bX_need 77 = .ok (.iload_n 2, 1) := by decide +kernel
theorem dX_need_78 : decode bX_need 78 = .ok (.ishl, 1) := by decide +kernel
theorem dX_need_79 : decode bX_need 79 = .ok (.ior, 1) := by decide +kernel
theorem dX_need_80 : decode bX_need 80 = .ok (.putfield 74, 3) := by decide +kernel
theorem dX_need_83 : decode bX_need 83 = .ok (.aload 4, 2) := by decide +kernel
theorem dX_need_85 : decode bX_need 85 = .ok (.getfield 74, 3) := by decide +kernel
theorem dX_need_88 : decode bX_need 88 = .ok (.invokestatic 77, 3) := by decide +kernel
theorem dX_need_91 : decode bX_need 91 = .ok (.aload 4, 2) := by decide +kernel
theorem dX_need_93 : decode bX_need 93 = .ok (.getfield 71, 3) := by decide +kernel
theorem dX_need_96 : decode bX_need 96 = .ok (.invokestatic 77, 3) := by decide +kernel
theorem dX_need_99 : decode bX_need 99 = .ok (.iadd, 1) := by decide +kernel
theorem dX_need_100 : decode bX_need 100 = .ok (.ireturn, 1) := by decide +kernel
theorem dX_isThere_0 : decode bX_isThere 0 = .ok (.iload_n 1, 1) := by decide +kernel
theorem dX_isThere_1 : decode bX_isThere 1 = .ok (.invokestatic 44, 3) := by decide +kernel
theorem dX_isThere_4 : decode bX_isThere 4 = .ok (.ifCond .eq 19, 3) := by decide +kernel
theorem dX_isThere_7 : decode bX_isThere 7 = .ok (.aload_n 0, 1) := by decide +kernel
theorem dX_isThere_8 : decode bX_isThere 8 = .ok (.getfield 11, 3) := by decide +kernel
theorem dX_isThere_11 : decode bX_isThere 11 = .ok (.iload_n 1, 1) := by decide +kernel
theorem dX_isThere_12 : decode bX_isThere 12 = .ok (.aaload, 1) := by decide +kernel
theorem dX_isThere_13 : decode bX_isThere 13 = .ok (.getfield 48, 3) := by decide +kernel
theorem dX_isThere_16 : decode bX_isThere 16 = .ok (.ifCond .eq 7, 3) := by decide +kernel
theorem dX_isThere_19 : decode bX_isThere 19 = .ok (.iconst 1, 1) := by decide +kernel
theorem dX_isThere_20 : decode bX_isThere 20 = .ok (.goto 4, 3) := by decide +kernel
theorem dX_isThere_23 : decode bX_isThere 23 = .ok (.iconst 0, 1) := by decide +kernel
theorem dX_isThere_24 : decode bX_isThere 24 = .ok (.ireturn, 1) := by decide +kernel
theorem dP_requires_0 : decode bP_requires 0 = .ok (.aload_n 0, 1) := by decide +kernel
theorem dP_requires_1 : decode bP_requires 1 = .ok (.getfield 15, 3) := by decide +kernel
theorem dP_requires_4 : decode bP_requires 4 = .ok (.iload_n 1, 1) := by decide +kernel
theorem dP_requires_5 : decode bP_requires 5 = .ok (.ishr, 1) := by decide +kernel
theorem dP_requires_6 : decode bP_requires 6 = .ok (.iconst 1, 1) := by decide +kernel
theorem dP_requires_7 : decode bP_requires 7 = .ok (.iand, 1) := by decide +kernel
theorem dP_requires_8 : decode bP_requires 8 = .ok (.iconst 1, 1) := by decide +kernel
theorem dP_requires_9 : decode bP_requires 9 = .ok (.if_icmp .ne 7, 3) := by decide +kernel
theorem dP_requires_12 : decode bP_requires 12 = .ok (.iconst 1, 1) := by decide +kernel
theorem dP_requires_13 : decode bP_requires 13 = .ok (.goto 4, 3) := by decide +kernel
theorem dP_requires_16 : decode bP_requires 16 = .ok (.iconst 0, 1) := by decide +kernel
theorem dP_requires_17 : decode bP_requires 17 = .ok (.ireturn, 1) := by decide +kernel
theorem dP_wishes_0 : decode bP_wishes 0 = .ok (.aload_n 0, 1) := by decide +kernel
theorem dP_wishes_1 : decode bP_wishes 1 = .ok (.getfield 18, 3) := by decide +kernel
theorem dP_wishes_4 : decode bP_wishes 4 = .ok (.iload_n 1, 1) := by decide +kernel
theorem dP_wishes_5 : decode bP_wishes 5 = .ok (.ishr, 1) := by decide +kernel
theorem dP_wishes_6 : decode bP_wishes 6 = .ok (.iconst 1, 1) := by decide +kernel
theorem dP_wishes_7 : decode bP_wishes 7 = .ok (.iand, 1) := by decide +kernel
theorem dP_wishes_8 : decode bP_wishes 8 = .ok (.iconst 1, 1) := by decide +kernel
theorem dP_wishes_9 : decode bP_wishes 9 = .ok (.if_icmp .ne 7, 3) := by decide +kernel
theorem dP_wishes_12 : decode bP_wishes 12 = .ok (.iconst 1, 1) := by decide +kernel
theorem dP_wishes_13 : decode bP_wishes 13 = .ok (.goto 4, 3) := by decide +kernel
theorem dP_wishes_16 : decode bP_wishes 16 = .ok (.iconst 0, 1) := by decide +kernel
theorem dP_wishes_17 : decode bP_wishes 17 = .ok (.ireturn, 1) := by decide +kernel
theorem dI_bitCount_0 : decode bI_bitCount 0 = .ok (.iload_n 0, 1) := by decide +kernel
theorem dI_bitCount_1 : decode bI_bitCount 1 = .ok (.iload_n 0, 1) := by decide +kernel
theorem dI_bitCount_2 : decode bI_bitCount 2 = .ok (.iconst 1, 1) := by decide +kernel
theorem dI_bitCount_3 : decode bI_bitCount 3 = .ok (.iushr, 1) := by decide +kernel
theorem dI_bitCount_4 : decode bI_bitCount 4 = .ok (.ldc_w 265, 3) := by decide +kernel
theorem dI_bitCount_7 : decode bI_bitCount 7 = .ok (.iand, 1) := by decide +kernel
theorem dI_bitCount_8 : decode bI_bitCount 8 = .ok (.isub, 1) := by decide +kernel
theorem dI_bitCount_9 : decode bI_bitCount 9 = .ok (.istore_n 0, 1) := by decide +kernel
theorem dI_bitCount_10 : decode bI_bitCount 10 = .ok (.iload_n 0, 1) := by decide +kernel
theorem dI_bitCount_11 : decode bI_bitCount 11 = .ok (.ldc_w 266, 3) := by decide +kernel
theorem dI_bitCount_14 : decode bI_bitCount 14 = .ok (.iand, 1) := by decide +kernel
theorem dI_bitCount_15 : decode bI_bitCount 15 = .ok (.iload_n 0, 1) := by decide +kernel
theorem dI_bitCount_16 : decode bI_bitCount 16 = .ok (.iconst 2, 1) := by decide +kernel
theorem dI_bitCount_17 : decode bI_bitCount 17 = .ok (.iushr, 1) := by decide +kernel
theorem dI_bitCount_18 : decode bI_bitCount 18 = .ok (.ldc_w 266, 3) := by decide +kernel
theorem dI_bitCount_21 : decode bI_bitCount 21 = .ok (.iand, 1) := by decide +kernel
theorem dI_bitCount_22 : decode bI_bitCount 22 = .ok (.iadd, 1) := by decide +kernel
theorem dI_bitCount_23 : decode bI_bitCount 23 = .ok (.istore_n 0, 1) := by decide +kernel
theorem dI_bitCount_24 : decode bI_bitCount 24 = .ok (.iload_n 0, 1) := by decide +kernel
theorem dI_bitCount_25 : decode bI_bitCount 25 = .ok (.iload_n 0, 1) := by decide +kernel
theorem dI_bitCount_26 : decode bI_bitCount 26 = .ok (.iconst 4, 1) := by decide +kernel
theorem dI_bitCount_27 : decode bI_bitCount 27 = .ok (.iushr, 1) := by decide +kernel
theorem dI_bitCount_28 : decode bI_bitCount 28 = .ok (.iadd, 1) := by decide +kernel
theorem dI_bitCount_29 : decode bI_bitCount 29 = .ok (.ldc_w 267, 3) := by decide +kernel
theorem dI_bitCount_32 : decode bI_bitCount 32 = .ok (.iand, 1) := by decide +kernel
theorem dI_bitCount_33 : decode bI_bitCount 33 = .ok (.istore_n 0, 1) := by decide +kernel
theorem dI_bitCount_34 : decode bI_bitCount 34 = .ok (.iload_n 0, 1) := by decide +kernel
theorem dI_bitCount_35 : decode bI_bitCount 35 = .ok (.iload_n 0, 1) := by decide +kernel
theorem dI_bitCount_36 : decode bI_bitCount 36 = .ok (.bipush 8, 2) := by decide +kernel
theorem dI_bitCount_38 : decode bI_bitCount 38 = .ok (.iushr, 1) := by decide +kernel
theorem dI_bitCount_39 : decode bI_bitCount 39 = .ok (.iadd, 1) := by decide +kernel
theorem dI_bitCount_40 : decode bI_bitCount 40 = .ok (.istore_n 0, 1) := by decide +kernel
theorem dI_bitCount_41 : decode bI_bitCount 41 = .ok (.iload_n 0, 1) := by decide +kernel
theorem dI_bitCount_42 : decode bI_bitCount 42 = .ok (.iload_n 0, 1) := by decide +kernel
theorem dI_bitCount_43 : decode bI_bitCount 43 = .ok (.bipush 16, 2) := by decide +kernel
theorem dI_bitCount_45 : decode bI_bitCount 45 = .ok (.iushr, 1) := by decide +kernel
theorem dI_bitCount_46 : decode bI_bitCount 46 = .ok (.iadd, 1) := by decide +kernel
theorem dI_bitCount_47 : decode bI_bitCount 47 = .ok (.istore_n 0, 1) := by decide +kernel
theorem dI_bitCount_48 : decode bI_bitCount 48 = .ok (.iload_n 0, 1) := by decide +kernel
theorem dI_bitCount_49 : decode bI_bitCount 49 = .ok (.bipush 63, 2) := by decide +kernel
theorem dI_bitCount_51 : decode bI_bitCount 51 = .ok (.iand, 1) := by decide +kernel
theorem dI_bitCount_52 : decode bI_bitCount 52 = .ok (.ireturn, 1) := by decide +kernel
theorem dX_serve_0 : decode bX_serve 0 = .ok (.aload_n 0, 1) := by decide +kernel
theorem dX_serve_1 : decode bX_serve 1 = .ok (.iload_n 1, 1) := by decide +kernel
theorem dX_serve_2 : decode bX_serve 2 = .ok (.invokevirtual 62, 3) := by decide +kernel
theorem dX_serve_5 : decode bX_serve 5 = .ok (.ifCond .eq 12, 3) := by decide +kernel
theorem dX_serve_8 : decode bX_serve 8 = .ok (.iload_n 2, 1) := by decide +kernel
theorem dX_serve_9 : decode bX_serve 9 = .ok (.ifCond .lt 8, 3) := by decide +kernel
theorem dX_serve_12 : decode bX_serve 12 = .ok (.iload_n 2, 1) := by decide +kernel
theorem dX_serve_13 : decode bX_serve 13 = .ok (.iconst 2, 1) := by decide +kernel
theorem dX_serve_14 : decode bX_serve 14 = .ok (.if_icmp .le 5, 3) := by decide +kernel
theorem dX_serve_17 : decode bX_serve 17 = .ok (.iconst (-1), 1) := by decide +kernel
theorem dX_serve_18 : decode bX_serve 18 = .ok (.ireturn, 1) := by decide +kernel
theorem dX_serve_19 : decode bX_serve 19 = .ok (.iload_n 2, 1) := by decide +kernel
theorem dX_serve_20 : decode bX_serve 20 = .ok (.iconst 2, 1) := by decide +kernel
theorem dX_serve_21 : decode bX_serve 21 = .ok (.if_icmp .ne 15, 3) := by decide +kernel
theorem dX_serve_24 : decode bX_serve 24 = .ok (.iload_n 3, 1) := by decide +kernel
theorem dX_serve_25 : decode bX_serve 25 = .ok (.ifCond .lt 9, 3) := by decide +kernel
theorem dX_serve_28 : decode bX_serve 28 = .ok (.iload_n 3, 1) := by decide +kernel
theorem dX_serve_29 : decode bX_serve 29 = .ok (.bipush 9, 2) := by decide +kernel
theorem dX_serve_31 : decode bX_serve 31 = .ok (.if_icmp .le 5, 3) := by decide +kernel
theorem dX_serve_34 : decode bX_serve 34 = .ok (.iconst (-1), 1) := by decide +kernel
theorem dX_serve_35 : decode bX_serve 35 = .ok (.ireturn, 1) := by decide +kernel
theorem dX_serve_36 : decode bX_serve 36 = .ok (.aload_n 0, 1) := by decide +kernel
theorem dX_serve_37 : decode bX_serve 37 = .ok (.getfield 11, 3) := by decide +kernel
theorem dX_serve_40 : decode bX_serve 40 = .ok (.iload_n 1, 1) := by decide +kernel
theorem dX_serve_41 : decode bX_serve 41 = .ok (.aaload, 1) := by decide +kernel
theorem dX_serve_42 : decode bX_serve 42 = .ok (.iload_n 2, 1) := by decide +kernel
theorem dX_serve_43 : decode bX_serve 43 = .ok (.putfield 83, 3) := by decide +kernel
theorem dX_serve_46 : decode bX_serve 46 = .ok (.aload_n 0, 1) := by decide +kernel
theorem dX_serve_47 : decode bX_serve 47 = .ok (.getfield 11, 3) := by decide +kernel
theorem dX_serve_50 : decode bX_serve 50 = .ok (.iload_n 1, 1) := by decide +kernel
theorem dX_serve_51 : decode bX_serve 51 = .ok (.aaload, 1) := by decide +kernel
theorem dX_serve_52 : decode bX_serve 52 = .ok (.iload_n 3, 1) := by decide +kernel
theorem dX_serve_53 : decode bX_serve 53 = .ok (.putfield 86, 3) := by decide +kernel
theorem dX_serve_56 : decode bX_serve 56 = .ok (.iconst 0, 1) := by decide +kernel
theorem dX_serve_57 : decode bX_serve 57 = .ok (.ireturn, 1) := by decide +kernel
theorem dX_extend_0 : decode bX_extend 0 = .ok (.aload_n 0, 1) := by decide +kernel
theorem dX_extend_1 : decode bX_extend 1 = .ok (.iload_n 1, 1) := by decide +kernel
theorem dX_extend_2 : decode bX_extend 2 = .ok (.invokevirtual 62, 3) := by decide +kernel
theorem dX_extend_5 : decode bX_extend 5 = .ok (.ifCond .eq 20, 3) := by decide +kernel
theorem dX_extend_8 : decode bX_extend 8 = .ok (.iload_n 2, 1) := by decide +kernel
theorem dX_extend_9 : decode bX_extend 9 = .ok (.invokestatic 89, 3) := by decide +kernel
theorem dX_extend_12 : decode bX_extend 12 = .ok (.ifCond .eq 13, 3) := by decide +kernel
theorem dX_extend_15 : decode bX_extend 15 = .ok (.iload_n 3, 1) := by decide +kernel
theorem dX_extend_16 : decode bX_extend 16 = .ok (.ifCond .lt 9, 3) := by decide +kernel
theorem dX_extend_19 : decode bX_extend 19 = .ok (.iload_n 3, 1) := by decide +kernel
theorem dX_extend_20 : decode bX_extend 20 = .ok (.bipush 8, 2) := by decide +kernel
theorem dX_extend_22 : decode bX_extend 22 = .ok (.if_icmp .le 5, 3) := by decide +kernel
theorem dX_extend_25 : decode bX_extend 25 = .ok (.iconst (-1), 1) := by decide +kernel
theorem dX_extend_26 : decode bX_extend 26 = .ok (.ireturn, 1) := by decide +kernel
theorem dX_extend_27 : decode bX_extend 27 = .ok (.aload_n 0, 1) := by decide +kernel
theorem dX_extend_28 : decode bX_extend 28 = .ok (.getfield 92, 3) := by decide +kernel
theorem dX_extend_31 : decode bX_extend 31 = .ok (.bipush 16, 2) := by decide +kernel
theorem dX_extend_33 : decode bX_extend 33 = .ok (.if_icmp .lt 6, 3) := by decide +kernel
theorem dX_extend_36 : decode bX_extend 36 = .ok (.bipush (-2), 2) := by decide +kernel
theorem dX_extend_38 : decode bX_extend 38 = .ok (.ireturn, 1) := by decide +kernel
theorem dX_extend_39 : decode bX_extend 39 = .ok (.aload_n 0, 1) := by decide +kernel
theorem dX_extend_40 : decode bX_extend 40 = .ok (.getfield 17, 3) := by decide +kernel
theorem dX_extend_43 : decode bX_extend 43 = .ok (.aload_n 0, 1) := by decide +kernel
theorem dX_extend_44 : decode bX_extend 44 = .ok (.getfield 92, 3) := by decide +kernel
theorem dX_extend_47 : decode bX_extend 47 = .ok (.aaload, 1) := by decide +kernel
theorem dX_extend_48 : decode bX_extend 48 = .ok (.astore 7, 2) := by decide +kernel
theorem dX_extend_50 : decode bX_extend 50 = .ok (.aload 7, 2) := by decide +kernel
theorem dX_extend_52 : decode bX_extend 52 = .ok (.iconst 1, 1) := by decide +kernel
theorem dX_extend_53 : decode bX_extend 53 = .ok (.putfield 58, 3) := by decide +kernel
theorem dX_extend_56 : decode bX_extend 56 = .ok (.aload 7, 2) := by decide +kernel
theorem dX_extend_58 : decode bX_extend 58 = .ok (.iload_n 1, 1) := by decide +kernel
theorem dX_extend_59 : decode bX_extend 59 = .ok (.putfield 55, 3) := by decide +kernel
theorem dX_extend_62 : decode bX_extend 62 = .ok (.aload 7, 2) := by decide +kernel
theorem dX_extend_64 : decode bX_extend 64 = .ok (.iload_n 2, 1) := by decide +kernel
theorem dX_extend_65 : decode bX_extend 65 = .ok (.putfield 95, 3) := by decide +kernel
theorem dX_extend_68 : decode bX_extend 68 = .ok (.aload 7, 2) := by decide +kernel
theorem dX_extend_70 : decode bX_extend 70 = .ok (.iload_n 3, 1) := by decide +kernel
theorem dX_extend_71 : decode bX_extend 71 = .ok (.putfield 98, 3) := by decide +kernel
theorem dX_extend_74 : decode bX_extend 74 = .ok (.aload 7, 2) := by decide +kernel
theorem dX_extend_76 : decode bX_extend 76 = .ok (.iload 4, 2) := by decide +kernel
theorem dX_extend_78 : decode bX_extend 78 = .ok (.putfield 101, 3) := by decide +kernel
theorem dX_extend_81 : decode bX_extend 81 = .ok (.aload 7, 2) := by decide +kernel
theorem dX_extend_83 : decode bX_extend 83 = .ok (.dload 5, 2) := by decide +kernel
theorem dX_extend_85 : decode bX_extend 85 = .ok (.putfield 104, 3) := by decide +kernel
theorem dX_extend_88 : decode bX_extend 88 = .ok (.aload_n 0, 1) := by decide +kernel
theorem dX_extend_89 : decode bX_extend 89 = .ok (.aload 7, 2) := by decide +kernel
theorem dX_extend_91 : decode bX_extend 91 = .ok (.invokevirtual 108, 3) := by decide +kernel
theorem dX_extend_94 : decode bX_extend 94 = .ok (.aload_n 0, 1) := by decide +kernel
theorem dX_extend_95 : decode bX_extend 95 = .ok (.dup, 1) := by decide +kernel
theorem dX_extend_96 : decode bX_extend 96 = .ok (.getfield 92, 3) := by decide +kernel
theorem dX_extend_99 : decode bX_extend 99 = .ok (.iconst 1, 1) := by decide +kernel
theorem dX_extend_100 : decode bX_extend 100 = .ok (.iadd, 1) := by decide +kernel
theorem dX_extend_101 : decode bX_extend 101 = .ok (.putfield 92, 3) := by decide +kernel
theorem dX_extend_104 : decode bX_extend 104 = .ok (.aload 7, 2) := by decide +kernel
theorem dX_extend_106 : decode bX_extend 106 = .ok (.getfield 112, 3) := by decide +kernel
theorem dX_extend_109 : decode bX_extend 109 = .ok (.ireturn, 1) := by decide +kernel
theorem dX_isPoint_0 : decode bX_isPoint 0 = .ok (.iload_n 0, 1) := by decide +kernel
theorem dX_isPoint_1 : decode bX_isPoint 1 = .ok (.ifCond .lt 12, 3) := by decide +kernel
theorem dX_isPoint_4 : decode bX_isPoint 4 = .ok (.iload_n 0, 1) := by decide +kernel
theorem dX_isPoint_5 : decode bX_isPoint 5 = .ok (.iconst 3, 1) := by decide +kernel
theorem dX_isPoint_6 : decode bX_isPoint 6 = .ok (.if_icmp .ge 7, 3) := by decide +kernel
theorem dX_isPoint_9 : decode bX_isPoint 9 = .ok (.iconst 1, 1) := by decide +kernel
theorem dX_isPoint_10 : decode bX_isPoint 10 = .ok (.goto 4, 3) := by decide +kernel
theorem dX_isPoint_13 : decode bX_isPoint 13 = .ok (.iconst 0, 1) := by decide +kernel
theorem dX_isPoint_14 : decode bX_isPoint 14 = .ok (.ireturn, 1) := by decide +kernel
theorem dX_putInOrder_0 : decode bX_putInOrder 0 = .ok (.aload_n 1, 1) := by decide +kernel
theorem dX_putInOrder_1 : decode bX_putInOrder 1 = .ok (.getfield 112, 3) := by decide +kernel
theorem dX_putInOrder_4 : decode bX_putInOrder 4 = .ok (.istore_n 2, 1) := by decide +kernel
theorem dX_putInOrder_5 : decode bX_putInOrder 5 = .ok (.iload_n 2, 1) := by decide +kernel
theorem dX_putInOrder_6 : decode bX_putInOrder 6 = .ok (.ifCond .le 44, 3) := by decide +kernel
theorem dX_putInOrder_9 : decode bX_putInOrder 9 = .ok (.aload_n 1, 1) := by decide +kernel
theorem dX_putInOrder_10 : decode bX_putInOrder 10 = .ok (.getfield 104, 3) := by decide +kernel
theorem dX_putInOrder_13 : decode bX_putInOrder 13 = .ok (.aload_n 0, 1) := by decide +kernel
theorem dX_putInOrder_14 : decode bX_putInOrder 14 = .ok (.getfield 21, 3) := by decide +kernel
theorem dX_putInOrder_17 : decode bX_putInOrder 17 = .ok (.iload_n 2, 1) := by decide +kernel
theorem dX_putInOrder_18 : decode bX_putInOrder 18 = .ok (.iconst 1, 1) := by decide +kernel
theorem dX_putInOrder_19 : decode bX_putInOrder 19 = .ok (.isub, 1) := by decide +kernel
theorem dX_putInOrder_20 : decode bX_putInOrder 20 = .ok (.aaload, 1) := by decide +kernel
theorem dX_putInOrder_21 : decode bX_putInOrder 21 = .ok (.getfield 104, 3) := by decide +kernel
theorem dX_putInOrder_24 : decode bX_putInOrder 24 = .ok (.invokestatic 168, 3) := by decide +kernel
theorem dX_putInOrder_27 : decode bX_putInOrder 27 = .ok (.ifCond .eq 23, 3) := by decide +kernel
theorem dX_putInOrder_30 : decode bX_putInOrder 30 = .ok (.aload_n 0, 1) := by decide +kernel
theorem dX_putInOrder_31 : decode bX_putInOrder 31 = .ok (.getfield 21, 3) := by decide +kernel
theorem dX_putInOrder_34 : decode bX_putInOrder 34 = .ok (.iload_n 2, 1) := by decide +kernel
theorem dX_putInOrder_35 : decode bX_putInOrder 35 = .ok (.aload_n 0, 1) := by decide +kernel
theorem dX_putInOrder_36 : decode bX_putInOrder 36 = .ok (.getfield 21, 3) := by decide +kernel
theorem dX_putInOrder_39 : decode bX_putInOrder 39 = .ok (.iload_n 2, 1) := by decide +kernel
theorem dX_putInOrder_40 : decode bX_putInOrder 40 = .ok (.iconst 1, 1) := by decide +kernel
theorem dX_putInOrder_41 : decode bX_putInOrder 41 = .ok (.isub, 1) := by decide +kernel
theorem dX_putInOrder_42 : decode bX_putInOrder 42 = .ok (.aaload, 1) := by decide +kernel
theorem dX_putInOrder_43 : decode bX_putInOrder 43 = .ok (.aastore, 1) := by decide +kernel
theorem dX_putInOrder_44 : decode bX_putInOrder 44 = .ok (.iinc 2 (-1), 3) := by decide +kernel
theorem dX_putInOrder_47 : decode bX_putInOrder 47 = .ok (.goto (-42), 3) := by decide +kernel
theorem dX_putInOrder_50 : decode bX_putInOrder 50 = .ok (.aload_n 0, 1) := by decide +kernel
theorem dX_putInOrder_51 : decode bX_putInOrder 51 = .ok (.getfield 21, 3) := by decide +kernel
theorem dX_putInOrder_54 : decode bX_putInOrder 54 = .ok (.iload_n 2, 1) := by decide +kernel
theorem dX_putInOrder_55 : decode bX_putInOrder 55 = .ok (.aload_n 1, 1) := by decide +kernel
theorem dX_putInOrder_56 : decode bX_putInOrder 56 = .ok (.aastore, 1) := by decide +kernel
theorem dX_putInOrder_57 : decode bX_putInOrder 57 = .ok (.return_, 1) := by decide +kernel
theorem dX_comesBefore_0 : decode bX_comesBefore 0 = .ok (.dload_n 0, 1) := by decide +kernel
theorem dX_comesBefore_1 : decode bX_comesBefore 1 = .ok (.dload_n 2, 1) := by decide +kernel
theorem dX_comesBefore_2 : decode bX_comesBefore 2 = .ok (.dcmp .g, 1) := by decide +kernel
theorem dX_comesBefore_3 : decode bX_comesBefore 3 = .ok (.ifCond .lt 15, 3) := by decide +kernel
theorem dX_comesBefore_6 : decode bX_comesBefore 6 = .ok (.dload_n 0, 1) := by decide +kernel
theorem dX_comesBefore_7 : decode bX_comesBefore 7 = .ok (.dload_n 0, 1) := by decide +kernel
theorem dX_comesBefore_8 : decode bX_comesBefore 8 = .ok (.dcmp .l, 1) := by decide +kernel
theorem dX_comesBefore_9 : decode bX_comesBefore 9 = .ok (.ifCond .ne 13, 3) := by decide +kernel
theorem dX_comesBefore_12 : decode bX_comesBefore 12 = .ok (.dload_n 2, 1) := by decide +kernel
theorem dX_comesBefore_13 : decode bX_comesBefore 13 = .ok (.dload_n 2, 1) := by decide +kernel
theorem dX_comesBefore_14 : decode bX_comesBefore 14 = .ok (.dcmp .l, 1) := by decide +kernel
theorem dX_comesBefore_15 : decode bX_comesBefore 15 = .ok (.ifCond .eq 7, 3) := by decide +kernel
theorem dX_comesBefore_18 : decode bX_comesBefore 18 = .ok (.iconst 1, 1) := by decide +kernel
theorem dX_comesBefore_19 : decode bX_comesBefore 19 = .ok (.goto 4, 3) := by decide +kernel
theorem dX_comesBefore_22 : decode bX_comesBefore 22 = .ok (.iconst 0, 1) := by decide +kernel
theorem dX_comesBefore_23 : decode bX_comesBefore 23 = .ok (.ireturn, 1) := by decide +kernel
theorem dX_start_0 : decode bX_start 0 = .ok (.iload_n 1, 1) := by decide +kernel
theorem dX_start_1 : decode bX_start 1 = .ok (.invokestatic 44, 3) := by decide +kernel
theorem dX_start_4 : decode bX_start 4 = .ok (.ifCond .eq 16, 3) := by decide +kernel
theorem dX_start_7 : decode bX_start 7 = .ok (.aload_n 0, 1) := by decide +kernel
theorem dX_start_8 : decode bX_start 8 = .ok (.aload_n 0, 1) := by decide +kernel
theorem dX_start_9 : decode bX_start 9 = .ok (.getfield 11, 3) := by decide +kernel
theorem dX_start_12 : decode bX_start 12 = .ok (.iload_n 1, 1) := by decide +kernel
theorem dX_start_13 : decode bX_start 13 = .ok (.aaload, 1) := by decide +kernel
theorem dX_start_14 : decode bX_start 14 = .ok (.invokevirtual 115, 3) := by decide +kernel
theorem dX_start_17 : decode bX_start 17 = .ok (.goto 4, 3) := by decide +kernel
theorem dX_start_20 : decode bX_start 20 = .ok (.iconst (-1), 1) := by decide +kernel
theorem dX_start_21 : decode bX_start 21 = .ok (.ireturn, 1) := by decide +kernel
theorem dX_startPlugin_0 : decode bX_startPlugin 0 = .ok (.aload_n 1, 1) := by decide +kernel
theorem dX_startPlugin_1 : decode bX_startPlugin 1 = .ok (.getfield 48, 3) := by decide +kernel
theorem dX_startPlugin_4 : decode bX_startPlugin 4 = .ok (.ifCond .ne 6, 3) := by decide +kernel
theorem dX_startPlugin_7 : decode bX_startPlugin 7 = .ok (.bipush (-3), 2) := by decide +kernel
theorem dX_startPlugin_9 : decode bX_startPlugin 9 = .ok (.ireturn, 1) := by decide +kernel
theorem dX_startPlugin_10 : decode bX_startPlugin 10 = .ok (.aload_n 1, 1) := by decide +kernel
theorem dX_startPlugin_11 : decode bX_startPlugin 11 = .ok (.getfield 48, 3) := by decide +kernel
theorem dX_startPlugin_14 : decode bX_startPlugin 14 = .ok (.iconst 2, 1) := by decide +kernel
theorem dX_startPlugin_15 : decode bX_startPlugin 15 = .ok (.if_icmp .ne 5, 3) := by decide +kernel
theorem dX_startPlugin_18 : decode bX_startPlugin 18 = .ok (.iconst 0, 1) := by decide +kernel
theorem dX_startPlugin_19 : decode bX_startPlugin 19 = .ok (.ireturn, 1) := by decide +kernel
theorem dX_startPlugin_20 : decode bX_startPlugin 20 = .ok (.aload_n 1, 1) := by decide +kernel
theorem dX_startPlugin_21 : decode bX_startPlugin 21 = .ok (.getfield 175, 3) := by decide +kernel
theorem dX_startPlugin_24 : decode bX_startPlugin 24 = .ok (.ifCond .eq 6, 3) := by decide +kernel
theorem dX_startPlugin_27 : decode bX_startPlugin 27 = .ok (.bipush (-4), 2) := by decide +kernel
theorem dX_startPlugin_29 : decode bX_startPlugin 29 = .ok (.ireturn, 1) := by decide +kernel
theorem dX_startPlugin_30 : decode bX_startPlugin 30 = .ok (.aload_n 1, 1) := by decide +kernel
theorem dX_startPlugin_31 : decode bX_startPlugin 31 = .ok (.iconst 1, 1) := by decide +kernel
theorem dX_startPlugin_32 : decode bX_startPlugin 32 = .ok (.putfield 175, 3) := by decide +kernel
theorem dX_startPlugin_35 : decode bX_startPlugin 35 = .ok (.aload_n 0, 1) := by decide +kernel
theorem dX_startPlugin_36 : decode bX_startPlugin 36 = .ok (.aload_n 1, 1) := by decide +kernel
theorem dX_startPlugin_37 : decode bX_startPlugin 37 = .ok (.invokevirtual 178, 3) := by decide +kernel
theorem dX_startPlugin_40 : decode bX_startPlugin 40 = .ok (.istore_n 2, 1) := by decide +kernel
theorem dX_startPlugin_41 : decode bX_startPlugin 41 = .ok (.aload_n 1, 1) := by decide +kernel
theorem dX_startPlugin_42 : decode bX_startPlugin 42 = .ok (.iconst 0, 1) := by decide +kernel
theorem dX_startPlugin_43 : decode bX_startPlugin 43 = .ok (.putfield 175, 3) := by decide +kernel
theorem dX_startPlugin_46 : decode bX_startPlugin 46 = .ok (.iload_n 2, 1) := by decide +kernel
theorem dX_startPlugin_47 : decode bX_startPlugin 47 = .ok (.ifCond .ne 8, 3) := by decide +kernel
theorem dX_startPlugin_50 : decode bX_startPlugin 50 = .ok (.aload_n 0, 1) := by decide +kernel
theorem dX_startPlugin_51 : decode bX_startPlugin 51 = .ok (.aload_n 1, 1) := by decide +kernel
theorem dX_startPlugin_52 : decode bX_startPlugin 52 = .ok (.invokevirtual 181, 3) := by decide +kernel
theorem dX_startPlugin_55 : decode bX_startPlugin 55 = .ok (.iload_n 2, 1) := by decide +kernel
theorem dX_startPlugin_56 : decode bX_startPlugin 56 = .ok (.ireturn, 1) := by decide +kernel
theorem dX_startNeeds_0 : decode bX_startNeeds 0 = .ok (.aload_n 0, 1) := by decide +kernel
theorem dX_startNeeds_1 : decode bX_startNeeds 1 = .ok (.getfield 11, 3) := by decide +kernel
theorem dX_startNeeds_4 : decode bX_startNeeds 4 = .ok (.astore_n 2, 1) := by decide +kernel
theorem dX_startNeeds_5 : decode bX_startNeeds 5 = .ok (.aload_n 2, 1) := by decide +kernel
theorem dX_startNeeds_6 : decode bX_startNeeds 6 = .ok (.arraylength, 1) := by decide +kernel
theorem dX_startNeeds_7 : decode bX_startNeeds 7 = .ok (.istore_n 3, 1) := by decide +kernel
theorem dX_startNeeds_8 : decode bX_startNeeds 8 = .ok (.iconst 0, 1) := by decide +kernel
theorem dX_startNeeds_9 : decode bX_startNeeds 9 = .ok (.istore 4, 2) := by decide +kernel
theorem dX_startNeeds_11 : decode bX_startNeeds 11 = .ok (.iload 4, 2) := by decide +kernel
theorem dX_startNeeds_13 : decode bX_startNeeds 13 = .ok (.iload_n 3, 1) := by decide +kernel
theorem dX_startNeeds_14 : decode bX_startNeeds 14 = .ok (.if_icmp .ge 74, 3) := by decide +kernel
theorem dX_startNeeds_17 : decode bX_startNeeds 17 = .ok (.aload_n 2, 1) := by decide +kernel
theorem dX_startNeeds_18 : decode bX_startNeeds 18 = .ok (.iload 4, 2) := by decide +kernel
theorem dX_startNeeds_20 : decode bX_startNeeds 20 = .ok (.aaload, 1) := by decide +kernel
theorem dX_startNeeds_21 : decode bX_startNeeds 21 = .ok (.astore 5, 2) := by decide +kernel
theorem dX_startNeeds_23 : decode bX_startNeeds 23 = .ok (.aload_n 1, 1) := by decide +kernel
theorem dX_startNeeds_24 : decode bX_startNeeds 24 = .ok (.aload 5, 2) := by decide +kernel
theorem dX_startNeeds_26 : decode bX_startNeeds 26 = .ok (.getfield 185, 3) := by decide +kernel
theorem dX_startNeeds_29 : decode bX_startNeeds 29 = .ok (.invokevirtual 65, 3) := by decide +kernel
theorem dX_startNeeds_32 : decode bX_startNeeds 32 = .ok (.ifCond .eq 22, 3) := by decide +kernel
theorem dX_startNeeds_35 : decode bX_startNeeds 35 = .ok (.aload_n 0, 1) := by decide +kernel
theorem dX_startNeeds_36 : decode bX_startNeeds 36 = .ok (.aload 5, 2) := by decide +kernel
theorem dX_startNeeds_38 : decode bX_startNeeds 38 = .ok (.invokevirtual 115, 3) := by decide +kernel
theorem dX_startNeeds_41 : decode bX_startNeeds 41 = .ok (.istore 6, 2) := by decide +kernel
theorem dX_startNeeds_43 : decode bX_startNeeds 43 = .ok (.iload 6, 2) := by decide +kernel
theorem dX_startNeeds_45 : decode bX_startNeeds 45 = .ok (.ifCond .eq 6, 3) := by decide +kernel
theorem dX_startNeeds_48 : decode bX_startNeeds 48 = .ok (.iload 6, 2) := by decide +kernel
theorem dX_startNeeds_50 : decode bX_startNeeds 50 = .ok (.ireturn, 1) := by decide +kernel
theorem dX_startNeeds_51 : decode bX_startNeeds 51 = .ok (.goto 31, 3) := by decide +kernel
theorem dX_startNeeds_54 : decode bX_startNeeds 54 = .ok (.aload_n 1, 1) := by decide +kernel
theorem dX_startNeeds_55 : decode bX_startNeeds 55 = .ok (.aload 5, 2) := by decide +kernel
theorem dX_startNeeds_57 : decode bX_startNeeds 57 = .ok (.getfield 185, 3) := by decide +kernel
theorem dX_startNeeds_60 : decode bX_startNeeds 60 = .ok (.invokevirtual 68, 3) := by decide +kernel
theorem dX_startNeeds_63 : decode bX_startNeeds 63 = .ok (.ifCond .eq 19, 3) := by decide +kernel
theorem dX_startNeeds_66 : decode bX_startNeeds 66 = .ok (.aload 5, 2) := by decide +kernel
theorem dX_startNeeds_68 : decode bX_startNeeds 68 = .ok (.getfield 48, 3) := by decide +kernel
theorem dX_startNeeds_71 : decode bX_startNeeds 71 = .ok (.iconst 1, 1) := by decide +kernel
theorem dX_startNeeds_72 : decode bX_startNeeds 72 = .ok (.if_icmp .ne 10, 3) := by decide +kernel
theorem dX_startNeeds_75 : decode bX_startNeeds 75 = .ok (.aload_n 0, 1) := by decide +kernel
theorem dX_startNeeds_76 : decode bX_startNeeds 76 = .ok (.aload 5, 2) := by decide +kernel
theorem dX_startNeeds_78 : decode bX_startNeeds 78 = .ok (.invokevirtual 115, 3) := by decide +kernel
theorem dX_startNeeds_81 : decode bX_startNeeds 81 = .ok (.pop, 1) := by decide +kernel
theorem dX_startNeeds_82 : decode bX_startNeeds 82 = .ok (.iinc 4 1, 3) := by decide +kernel
theorem dX_startNeeds_85 : decode bX_startNeeds 85 = .ok (.goto (-74), 3) := by decide +kernel
theorem dX_startNeeds_88 : decode bX_startNeeds 88 = .ok (.iconst 0, 1) := by decide +kernel
theorem dX_startNeeds_89 : decode bX_startNeeds 89 = .ok (.ireturn, 1) := by decide +kernel
theorem dX_activate_0 : decode bX_activate 0 = .ok (.aload_n 1, 1) := by decide +kernel
theorem dX_activate_1 : decode bX_activate 1 = .ok (.iconst 2, 1) := by decide +kernel
theorem dX_activate_2 : decode bX_activate 2 = .ok (.putfield 48, 3) := by decide +kernel
theorem dX_activate_5 : decode bX_activate 5 = .ok (.aload_n 1, 1) := by decide +kernel
theorem dX_activate_6 : decode bX_activate 6 = .ok (.aload_n 0, 1) := by decide +kernel
theorem dX_activate_7 : decode bX_activate 7 = .ok (.getfield 186, 3) := by decide +kernel
theorem dX_activate_10 : decode bX_activate 10 = .ok (.putfield 189, 3) := by decide +kernel
theorem dX_activate_13 : decode bX_activate 13 = .ok (.aload_n 0, 1) := by decide +kernel
theorem dX_activate_14 : decode bX_activate 14 = .ok (.dup, 1) := by decide +kernel
theorem dX_activate_15 : decode bX_activate 15 = .ok (.getfield 186, 3) := by decide +kernel
theorem dX_activate_18 : decode bX_activate 18 = .ok (.iconst 1, 1) := by decide +kernel
theorem dX_activate_19 : decode bX_activate 19 = .ok (.iadd, 1) := by decide +kernel
theorem dX_activate_20 : decode bX_activate 20 = .ok (.putfield 186, 3) := by decide +kernel
theorem dX_activate_23 : decode bX_activate 23 = .ok (.aload_n 0, 1) := by decide +kernel
theorem dX_activate_24 : decode bX_activate 24 = .ok (.getfield 29, 3) := by decide +kernel
theorem dX_activate_27 : decode bX_activate 27 = .ok (.bipush 10, 2) := by decide +kernel
theorem dX_activate_29 : decode bX_activate 29 = .ok (.aload_n 1, 1) := by decide +kernel
theorem dX_activate_30 : decode bX_activate 30 = .ok (.getfield 185, 3) := by decide +kernel
theorem dX_activate_33 : decode bX_activate 33 = .ok (.iadd, 1) := by decide +kernel
theorem dX_activate_34 : decode bX_activate 34 = .ok (.invokevirtual 192, 3) := by decide +kernel
theorem dX_activate_37 : decode bX_activate 37 = .ok (.return_, 1) := by decide +kernel
theorem dH_note_0 : decode bH_note 0 = .ok (.aload_n 0, 1) := by decide +kernel
theorem dH_note_1 : decode bH_note 1 = .ok (.getfield 9, 3) := by decide +kernel
theorem dH_note_4 : decode bH_note 4 = .ok (.aload_n 0, 1) := by decide +kernel
theorem dH_note_5 : decode bH_note 5 = .ok (.getfield 19, 3) := by decide +kernel
theorem dH_note_8 : decode bH_note 8 = .ok (.bipush 15, 2) := by decide +kernel
theorem dH_note_10 : decode bH_note 10 = .ok (.iand, 1) := by decide +kernel
theorem dH_note_11 : decode bH_note 11 = .ok (.iload_n 1, 1) := by decide +kernel
theorem dH_note_12 : decode bH_note 12 = .ok (.iastore, 1) := by decide +kernel
theorem dH_note_13 : decode bH_note 13 = .ok (.aload_n 0, 1) := by decide +kernel
theorem dH_note_14 : decode bH_note 14 = .ok (.dup, 1) := by decide +kernel
theorem dH_note_15 : decode bH_note 15 = .ok (.getfield 19, 3) := by decide +kernel
theorem dH_note_18 : decode bH_note 18 = .ok (.iconst 1, 1) := by decide +kernel
theorem dH_note_19 : decode bH_note 19 = .ok (.iadd, 1) := by decide +kernel
theorem dH_note_20 : decode bH_note 20 = .ok (.putfield 19, 3) := by decide +kernel
theorem dH_note_23 : decode bH_note 23 = .ok (.return_, 1) := by decide +kernel
theorem dX_stop_0 : decode bX_stop 0 = .ok (.iload_n 1, 1) := by decide +kernel
theorem dX_stop_1 : decode bX_stop 1 = .ok (.invokestatic 44, 3) := by decide +kernel
theorem dX_stop_4 : decode bX_stop 4 = .ok (.ifCond .eq 16, 3) := by decide +kernel
theorem dX_stop_7 : decode bX_stop 7 = .ok (.aload_n 0, 1) := by decide +kernel
theorem dX_stop_8 : decode bX_stop 8 = .ok (.getfield 11, 3) := by decide +kernel
theorem dX_stop_11 : decode bX_stop 11 = .ok (.iload_n 1, 1) := by decide +kernel
theorem dX_stop_12 : decode bX_stop 12 = .ok (.aaload, 1) := by decide +kernel
theorem dX_stop_13 : decode bX_stop 13 = .ok (.getfield 48, 3) := by decide +kernel
theorem dX_stop_16 : decode bX_stop 16 = .ok (.iconst 2, 1) := by decide +kernel
theorem dX_stop_17 : decode bX_stop 17 = .ok (.if_icmp .eq 5, 3) := by decide +kernel
theorem dX_stop_20 : decode bX_stop 20 = .ok (.iconst (-1), 1) := by decide +kernel
theorem dX_stop_21 : decode bX_stop 21 = .ok (.ireturn, 1) := by decide +kernel
theorem dX_stop_22 : decode bX_stop 22 = .ok (.aload_n 0, 1) := by decide +kernel
theorem dX_stop_23 : decode bX_stop 23 = .ok (.aload_n 0, 1) := by decide +kernel
theorem dX_stop_24 : decode bX_stop 24 = .ok (.getfield 11, 3) := by decide +kernel
theorem dX_stop_27 : decode bX_stop 27 = .ok (.iload_n 1, 1) := by decide +kernel
theorem dX_stop_28 : decode bX_stop 28 = .ok (.aaload, 1) := by decide +kernel
theorem dX_stop_29 : decode bX_stop 29 = .ok (.invokevirtual 119, 3) := by decide +kernel
theorem dX_stop_32 : decode bX_stop 32 = .ok (.ireturn, 1) := by decide +kernel
theorem dX_stopPlugin_0 : decode bX_stopPlugin 0 = .ok (.aload_n 1, 1) := by decide +kernel
theorem dX_stopPlugin_1 : decode bX_stopPlugin 1 = .ok (.iconst 1, 1) := by decide +kernel
theorem dX_stopPlugin_2 : decode bX_stopPlugin 2 = .ok (.putfield 195, 3) := by decide +kernel
theorem dX_stopPlugin_5 : decode bX_stopPlugin 5 = .ok (.aload_n 0, 1) := by decide +kernel
theorem dX_stopPlugin_6 : decode bX_stopPlugin 6 = .ok (.aload_n 1, 1) := by decide +kernel
theorem dX_stopPlugin_7 : decode bX_stopPlugin 7 = .ok (.invokevirtual 198, 3) := by decide +kernel
theorem dX_stopPlugin_10 : decode bX_stopPlugin 10 = .ok (.istore_n 2, 1) := by decide +kernel
theorem dX_stopPlugin_11 : decode bX_stopPlugin 11 = .ok (.aload_n 1, 1) := by decide +kernel
theorem dX_stopPlugin_12 : decode bX_stopPlugin 12 = .ok (.iconst 0, 1) := by decide +kernel
theorem dX_stopPlugin_13 : decode bX_stopPlugin 13 = .ok (.putfield 195, 3) := by decide +kernel
theorem dX_stopPlugin_16 : decode bX_stopPlugin 16 = .ok (.aload_n 1, 1) := by decide +kernel
theorem dX_stopPlugin_17 : decode bX_stopPlugin 17 = .ok (.iconst 1, 1) := by decide +kernel
theorem dX_stopPlugin_18 : decode bX_stopPlugin 18 = .ok (.putfield 48, 3) := by decide +kernel
theorem dX_stopPlugin_21 : decode bX_stopPlugin 21 = .ok (.aload_n 0, 1) := by decide +kernel
theorem dX_stopPlugin_22 : decode bX_stopPlugin 22 = .ok (.getfield 29, 3) := by decide +kernel
theorem dX_stopPlugin_25 : decode bX_stopPlugin 25 = .ok (.bipush 20, 2) := by decide +kernel
theorem dX_stopPlugin_27 : decode bX_stopPlugin 27 = .ok (.aload_n 1, 1) := by decide +kernel
theorem dX_stopPlugin_28 : decode bX_stopPlugin 28 = .ok (.getfield 185, 3) := by decide +kernel
theorem dX_stopPlugin_31 : decode bX_stopPlugin 31 = .ok (.iadd, 1) := by decide +kernel
theorem dX_stopPlugin_32 : decode bX_stopPlugin 32 = .ok (.invokevirtual 192, 3) := by decide +kernel
theorem dX_stopPlugin_35 : decode bX_stopPlugin 35 = .ok (.iload_n 2, 1) := by decide +kernel
theorem dX_stopPlugin_36 : decode bX_stopPlugin 36 = .ok (.iconst 1, 1) := by decide +kernel
theorem dX_stopPlugin_37 : decode bX_stopPlugin 37 = .ok (.iadd, 1) := by decide +kernel
theorem dX_stopPlugin_38 : decode bX_stopPlugin 38 = .ok (.ireturn, 1) := by decide +kernel
theorem dX_stopThoseThatRequire_0 : decode bX_stopThoseThatRequire 0 = .ok (.iconst 0, 1) := by decide +kernel
theorem dX_stopThoseThatRequire_1 : decode bX_stopThoseThatRequire 1 = .ok (.istore_n 2, 1) := by decide +kernel
theorem dX_stopThoseThatRequire_2 : decode bX_stopThoseThatRequire 2 = .ok (.iconst 0, 1) := by decide +kernel
theorem dX_stopThoseThatRequire_3 : decode bX_stopThoseThatRequire 3 = .ok (.istore_n 3, 1) := by decide +kernel
theorem dX_stopThoseThatRequire_4 : decode bX_stopThoseThatRequire 4 = .ok (.iload_n 3, 1) := by decide +kernel
theorem dX_stopThoseThatRequire_5 : decode bX_stopThoseThatRequire 5 = .ok (.bipush 8, 2) := by decide +kernel
theorem dX_stopThoseThatRequire_7 : decode bX_stopThoseThatRequire 7 = .ok (.if_icmp .ge 32, 3) := by decide +kernel
theorem dX_stopThoseThatRequire_10 : decode bX_stopThoseThatRequire 10 = .ok (.aload_n 0, 1) := by decide +kernel
theorem dX_stopThoseThatRequire_11 : decode bX_stopThoseThatRequire 11 = .ok (.aload_n 1, 1) := by decide +kernel
theorem dX_stopThoseThatRequire_12 : decode bX_stopThoseThatRequire 12 = .ok (.invokevirtual 201, 3) := by decide +kernel
theorem dX_stopThoseThatRequire_15 : decode bX_stopThoseThatRequire 15 = .ok (.astore 4, 2) := by decide +kernel
theorem dX_stopThoseThatRequire_17 : decode bX_stopThoseThatRequire 17 = .ok (.aload 4, 2) := by decide +kernel
theorem dX_stopThoseThatRequire_19 : decode bX_stopThoseThatRequire 19 = .ok (.ifnonnull 5, 3) := by decide +kernel
theorem dX_stopThoseThatRequire_22 : decode bX_stopThoseThatRequire 22 = .ok (.iload_n 2, 1) := by decide +kernel
theorem dX_stopThoseThatRequire_23 : decode bX_stopThoseThatRequire 23 = .ok (.ireturn, 1) := by decide +kernel
theorem dX_stopThoseThatRequire_24 : decode bX_stopThoseThatRequire 24 = .ok (.iload_n 2, 1) := by decide +kernel
theorem dX_stopThoseThatRequire_25 : decode bX_stopThoseThatRequire 25 = .ok (.aload_n 0, 1) := by decide +kernel
theorem dX_stopThoseThatRequire_26 : decode bX_stopThoseThatRequire 26 = .ok (.aload 4, 2) := by decide +kernel
theorem dX_stopThoseThatRequire_28 : decode bX_stopThoseThatRequire 28 = .ok (.invokevirtual 119, 3) := by decide +kernel
theorem dX_stopThoseThatRequire_31 : decode bX_stopThoseThatRequire 31 = .ok (.iadd, 1) := by decide +kernel
theorem dX_stopThoseThatRequire_32 : decode bX_stopThoseThatRequire 32 = .ok (.istore_n 2, 1) := by decide +kernel
theorem dX_stopThoseThatRequire_33 : decode bX_stopThoseThatRequire 33 = .ok (.iinc 3 1, 3) := by decide +kernel
theorem dX_stopThoseThatRequire_36 : decode bX_stopThoseThatRequire 36 = .ok (.goto (-32), 3) := by decide +kernel
theorem dX_stopThoseThatRequire_39 : decode bX_stopThoseThatRequire 39 = .ok (.iload_n 2, 1) := by decide +kernel
theorem dX_stopThoseThatRequire_40 : decode bX_stopThoseThatRequire 40 = .ok (.ireturn, 1) := by decide +kernel
theorem dX_lastStartedThatRequires_0 : decode bX_lastStartedThatRequires 0 = .ok (.aconst_null, 1) := by decide +kernel
theorem dX_lastStartedThatRequires_1 : decode bX_lastStartedThatRequires 1 = .ok (.astore_n 2, 1) := by decide +kernel
theorem dX_lastStartedThatRequires_2 : decode bX_lastStartedThatRequires 2 = .ok (.aload_n 0, 1) := by decide +kernel
theorem dX_lastStartedThatRequires_3 : decode bX_lastStartedThatRequires 3 = .ok (.getfield 11, 3) := by decide +kernel
theorem dX_lastStartedThatRequires_6 : decode bX_lastStartedThatRequires 6 = .ok (.astore_n 3, 1) := by decide +kernel
theorem dX_lastStartedThatRequires_7 : decode bX_lastStartedThatRequires 7 = .ok (.aload_n 3, 1) := by decide +kernel
theorem dX_lastStartedThatRequires_8 : decode bX_lastStartedThatRequires 8 = .ok (.arraylength, 1) := by decide +kernel
theorem dX_lastStartedThatRequires_9 : decode bX_lastStartedThatRequires 9 = .ok (.istore 4, 2) := by decide +kernel
theorem dX_lastStartedThatRequires_11 : decode bX_lastStartedThatRequires 11 = .ok (.iconst 0, 1) := by decide +kernel
theorem dX_lastStartedThatRequires_12 : decode bX_lastStartedThatRequires 12 = .ok (.istore 5, 2) := by decide +kernel
theorem dX_lastStartedThatRequires_14 : decode bX_lastStartedThatRequires 14 = .ok (.iload 5, 2) := by decide +kernel
theorem dX_lastStartedThatRequires_16 : decode bX_lastStartedThatRequires 16 = .ok (.iload 4, 2) := by decide +kernel
theorem dX_lastStartedThatRequires_18 : decode bX_lastStartedThatRequires 18 = .ok (.if_icmp .ge 63, 3) := by decide +kernel
theorem dX_lastStartedThatRequires_21 : decode bX_lastStartedThatRequires 21 = .ok (.aload_n 3, 1) := by decide +kernel
theorem dX_lastStartedThatRequires_22 : decode bX_lastStartedThatRequires 22 = .ok (.iload 5, 2) := by decide +kernel
theorem dX_lastStartedThatRequires_24 : decode bX_lastStartedThatRequires 24 = .ok (.aaload, 1) := by decide +kernel
theorem dX_lastStartedThatRequires_25 : decode bX_lastStartedThatRequires 25 = .ok (.astore 6, 2) := by decide +kernel
theorem dX_lastStartedThatRequires_27 : decode bX_lastStartedThatRequires 27 = .ok (.aload 6, 2) := by decide +kernel
theorem dX_lastStartedThatRequires_29 : decode bX_lastStartedThatRequires 29 = .ok (.getfield 48, 3) := by decide +kernel
theorem dX_lastStartedThatRequires_32 : decode bX_lastStartedThatRequires 32 = .ok (.iconst 2, 1) := by decide +kernel
theorem dX_lastStartedThatRequires_33 : decode bX_lastStartedThatRequires 33 = .ok (.if_icmp .ne 42, 3) := by decide +kernel
theorem dX_lastStartedThatRequires_36 : decode bX_lastStartedThatRequires 36 = .ok (.aload 6, 2) := by decide +kernel
theorem dX_lastStartedThatRequires_38 : decode bX_lastStartedThatRequires 38 = .ok (.getfield 195, 3) := by decide +kernel
theorem dX_lastStartedThatRequires_41 : decode bX_lastStartedThatRequires 41 = .ok (.ifCond .ne 34, 3) := by decide +kernel
theorem dX_lastStartedThatRequires_44 : decode bX_lastStartedThatRequires 44 = .ok (.aload 6, 2) := by decide +kernel
theorem dX_lastStartedThatRequires_46 : decode bX_lastStartedThatRequires 46 = .ok (.aload_n 1, 1) := by decide +kernel
theorem dX_lastStartedThatRequires_47 : decode bX_lastStartedThatRequires 47 = .ok (.getfield 185, 3) := by decide +kernel
theorem dX_lastStartedThatRequires_50 : decode bX_lastStartedThatRequires 50 = .ok (.invokevirtual 65, 3) := by decide +kernel
theorem dX_lastStartedThatRequires_53 : decode bX_lastStartedThatRequires 53 = .ok (.ifCond .eq 22, 3) := by decide +kernel
theorem dX_lastStartedThatRequires_56 : decode bX_lastStartedThatRequires 56 = .ok (.aload_n 2, 1) := by decide +kernel
theorem dX_lastStartedThatRequires_57 : decode bX_lastStartedThatRequires 57 = .ok (.ifnull 15, 3) := by decide +kernel
theorem dX_lastStartedThatRequires_60 : decode bX_lastStartedThatRequires 60 = .ok (.aload 6, 2) := by decide +kernel
theorem dX_lastStartedThatRequires_62 : decode bX_lastStartedThatRequires 62 = .ok (.getfield 189, 3) := by decide +kernel
theorem dX_lastStartedThatRequires_65 : decode bX_lastStartedThatRequires 65 = .ok (.aload_n 2, 1) := by decide +kernel
theorem dX_lastStartedThatRequires_66 : decode bX_lastStartedThatRequires 66 = .ok (.getfield 189, 3) := by decide +kernel
theorem dX_lastStartedThatRequires_69 : decode bX_lastStartedThatRequires 69 = .ok (.if_icmp .le 6, 3) := by decide +kernel
theorem dX_lastStartedThatRequires_72 : decode bX_lastStartedThatRequires 72 = .ok (.aload 6, 2) := by decide +kernel
theorem dX_lastStartedThatRequires_74 : decode bX_lastStartedThatRequires 74 = .ok (.astore_n 2, 1) := by decide +kernel
theorem dX_lastStartedThatRequires_75 : decode bX_lastStartedThatRequires 75 = .ok (.iinc 5 1, 3) := by decide +kernel
theorem dX_lastStartedThatRequires_78 : decode bX_lastStartedThatRequires 78 = .ok (.goto (-64), 3) := by decide +kernel
theorem dX_lastStartedThatRequires_81 : decode bX_lastStartedThatRequires 81 = .ok (.aload_n 2, 1) := by decide +kernel
theorem dX_lastStartedThatRequires_82 : decode bX_lastStartedThatRequires 82 = .ok (.areturn, 1) := by decide +kernel
theorem dX_startAll_0 : decode bX_startAll 0 = .ok (.aload_n 0, 1) := by decide +kernel
theorem dX_startAll_1 : decode bX_startAll 1 = .ok (.getfield 11, 3) := by decide +kernel
theorem dX_startAll_4 : decode bX_startAll 4 = .ok (.astore_n 1, 1) := by decide +kernel
theorem dX_startAll_5 : decode bX_startAll 5 = .ok (.aload_n 1, 1) := by decide +kernel
theorem dX_startAll_6 : decode bX_startAll 6 = .ok (.arraylength, 1) := by decide +kernel
theorem dX_startAll_7 : decode bX_startAll 7 = .ok (.istore_n 2, 1) := by decide +kernel
theorem dX_startAll_8 : decode bX_startAll 8 = .ok (.iconst 0, 1) := by decide +kernel
theorem dX_startAll_9 : decode bX_startAll 9 = .ok (.istore_n 3, 1) := by decide +kernel
theorem dX_startAll_10 : decode bX_startAll 10 = .ok (.iload_n 3, 1) := by decide +kernel
theorem dX_startAll_11 : decode bX_startAll 11 = .ok (.iload_n 2, 1) := by decide +kernel
theorem dX_startAll_12 : decode bX_startAll 12 = .ok (.if_icmp .ge 21, 3) := by decide +kernel
theorem dX_startAll_15 : decode bX_startAll 15 = .ok (.aload_n 1, 1) := by decide +kernel
theorem dX_startAll_16 : decode bX_startAll 16 = .ok (.iload_n 3, 1) := by decide +kernel
theorem dX_startAll_17 : decode bX_startAll 17 = .ok (.aaload, 1) := by decide +kernel
theorem dX_startAll_18 : decode bX_startAll 18 = .ok (.astore 4, 2) := by decide +kernel
theorem dX_startAll_20 : decode bX_startAll 20 = .ok (.aload_n 0, 1) := by decide +kernel
theorem dX_startAll_21 : decode bX_startAll 21 = .ok (.aload 4, 2) := by decide +kernel
theorem dX_startAll_23 : decode bX_startAll 23 = .ok (.invokevirtual 115, 3) := by decide +kernel
theorem dX_startAll_26 : decode bX_startAll 26 = .ok (.pop, 1) := by decide +kernel
theorem dX_startAll_27 : decode bX_startAll 27 = .ok (.iinc 3 1, 3) := by decide +kernel
theorem dX_startAll_30 : decode bX_startAll 30 = .ok (.goto (-20), 3) := by decide +kernel
theorem dX_startAll_33 : decode bX_startAll 33 = .ok (.aload_n 0, 1) := by decide +kernel
theorem dX_startAll_34 : decode bX_startAll 34 = .ok (.invokevirtual 122, 3) := by decide +kernel
theorem dX_startAll_37 : decode bX_startAll 37 = .ok (.ireturn, 1) := by decide +kernel
theorem dX_activePlugins_0 : decode bX_activePlugins 0 = .ok (.iconst 0, 1) := by decide +kernel
theorem dX_activePlugins_1 : decode bX_activePlugins 1 = .ok (.istore_n 1, 1) := by decide +kernel
theorem dX_activePlugins_2 : decode bX_activePlugins 2 = .ok (.aload_n 0, 1) := by decide +kernel
theorem dX_activePlugins_3 : decode bX_activePlugins 3 = .ok (.getfield 11, 3) := by decide +kernel
theorem dX_activePlugins_6 : decode bX_activePlugins 6 = .ok (.astore_n 2, 1) := by decide +kernel
theorem dX_activePlugins_7 : decode bX_activePlugins 7 = .ok (.aload_n 2, 1) := by decide +kernel
theorem dX_activePlugins_8 : decode bX_activePlugins 8 = .ok (.arraylength, 1) := by decide +kernel
theorem dX_activePlugins_9 : decode bX_activePlugins 9 = .ok (.istore_n 3, 1) := by decide +kernel
theorem dX_activePlugins_10 : decode bX_activePlugins 10 = .ok (.iconst 0, 1) := by decide +kernel
theorem dX_activePlugins_11 : decode bX_activePlugins 11 = .ok (.istore 4, 2) := by decide +kernel
theorem dX_activePlugins_13 : decode bX_activePlugins 13 = .ok (.iload 4, 2) := by decide +kernel
theorem dX_activePlugins_15 : decode bX_activePlugins 15 = .ok (.iload_n 3, 1) := by decide +kernel
theorem dX_activePlugins_16 : decode bX_activePlugins 16 = .ok (.if_icmp .ge 27, 3) := by decide +kernel
theorem dX_activePlugins_19 : decode bX_activePlugins 19 = .ok (.aload_n 2, 1) := by decide +kernel
theorem dX_activePlugins_20 : decode bX_activePlugins 20 = .ok (.iload 4, 2) := by decide +kernel
theorem dX_activePlugins_22 : decode bX_activePlugins 22 = .ok (.aaload, 1) := by decide +kernel
theorem dX_activePlugins_23 : decode bX_activePlugins 23 = .ok (.astore 5, 2) := by decide +kernel
theorem dX_activePlugins_25 : decode bX_activePlugins 25 = .ok (.aload 5, 2) := by decide +kernel
theorem dX_activePlugins_27 : decode bX_activePlugins 27 = .ok (.getfield 48, 3) := by decide +kernel
theorem dX_activePlugins_30 : decode bX_activePlugins 30 = .ok (.iconst 2, 1) := by decide +kernel
theorem dX_activePlugins_31 : decode bX_activePlugins 31 = .ok (.if_icmp .ne 6, 3) := by decide +kernel
theorem dX_activePlugins_34 : decode bX_activePlugins 34 = .ok (.iinc 1 1, 3) := by decide +kernel
theorem dX_activePlugins_37 : decode bX_activePlugins 37 = .ok (.iinc 4 1, 3) := by decide +kernel
theorem dX_activePlugins_40 : decode bX_activePlugins 40 = .ok (.goto (-27), 3) := by decide +kernel
theorem dX_activePlugins_43 : decode bX_activePlugins 43 = .ok (.iload_n 1, 1) := by decide +kernel
theorem dX_activePlugins_44 : decode bX_activePlugins 44 = .ok (.ireturn, 1) := by decide +kernel
theorem dX_call_0 : decode bX_call 0 = .ok (.iload_n 1, 1) := by decide +kernel
theorem dX_call_1 : decode bX_call 1 = .ok (.invokestatic 89, 3) := by decide +kernel
theorem dX_call_4 : decode bX_call 4 = .ok (.ifCond .eq 13, 3) := by decide +kernel
theorem dX_call_7 : decode bX_call 7 = .ok (.aload_n 0, 1) := by decide +kernel
theorem dX_call_8 : decode bX_call 8 = .ok (.iload_n 1, 1) := by decide +kernel
theorem dX_call_9 : decode bX_call 9 = .ok (.iload_n 2, 1) := by decide +kernel
theorem dX_call_10 : decode bX_call 10 = .ok (.iconst 0, 1) := by decide +kernel
theorem dX_call_11 : decode bX_call 11 = .ok (.invokevirtual 126, 3) := by decide +kernel
theorem dX_call_14 : decode bX_call 14 = .ok (.goto 4, 3) := by decide +kernel
theorem dX_call_17 : decode bX_call 17 = .ok (.iconst (-1), 1) := by decide +kernel
theorem dX_call_18 : decode bX_call 18 = .ok (.ireturn, 1) := by decide +kernel
theorem dX_callPoint_0 : decode bX_callPoint 0 = .ok (.iload_n 2, 1) := by decide +kernel
theorem dX_callPoint_1 : decode bX_callPoint 1 = .ok (.istore 4, 2) := by decide +kernel
theorem dX_callPoint_3 : decode bX_callPoint 3 = .ok (.aload_n 0, 1) := by decide +kernel
theorem dX_callPoint_4 : decode bX_callPoint 4 = .ok (.getfield 21, 3) := by decide +kernel
theorem dX_callPoint_7 : decode bX_callPoint 7 = .ok (.astore 5, 2) := by decide +kernel
theorem dX_callPoint_9 : decode bX_callPoint 9 = .ok (.aload 5, 2) := by decide +kernel
theorem dX_callPoint_11 : decode bX_callPoint 11 = .ok (.arraylength, 1) := by decide +kernel
theorem dX_callPoint_12 : decode bX_callPoint 12 = .ok (.istore 6, 2) := by decide +kernel
theorem dX_callPoint_14 : decode bX_callPoint 14 = .ok (.iconst 0, 1) := by decide +kernel
theorem dX_callPoint_15 : decode bX_callPoint 15 = .ok (.istore 7, 2) := by decide +kernel
theorem dX_callPoint_17 : decode bX_callPoint 17 = .ok (.iload 7, 2) := by decide +kernel
theorem dX_callPoint_19 : decode bX_callPoint 19 = .ok (.iload 6, 2) := by decide +kernel
theorem dX_callPoint_21 : decode bX_callPoint 21 = .ok (.if_icmp .ge 48, 3) := by decide +kernel
theorem dX_callPoint_24 : decode bX_callPoint 24 = .ok (.aload 5, 2) := by decide +kernel
theorem dX_callPoint_26 : decode bX_callPoint 26 = .ok (.iload 7, 2) := by decide +kernel
theorem dX_callPoint_28 : decode bX_callPoint 28 = .ok (.aaload, 1) := by decide +kernel
theorem dX_callPoint_29 : decode bX_callPoint 29 = .ok (.astore 8, 2) := by decide +kernel
theorem dX_callPoint_31 : decode bX_callPoint 31 = .ok (.aload_n 0, 1) := by decide +kernel
theorem dX_callPoint_32 : decode bX_callPoint 32 = .ok (.aload 8, 2) := by decide +kernel
theorem dX_callPoint_34 : decode bX_callPoint 34 = .ok (.iload_n 1, 1) := by decide +kernel
theorem dX_callPoint_35 : decode bX_callPoint 35 = .ok (.invokevirtual 147, 3) := by decide +kernel
theorem dX_callPoint_38 : decode bX_callPoint 38 = .ok (.ifCond .eq 25, 3) := by decide +kernel
theorem dX_callPoint_41 : decode bX_callPoint 41 = .ok (.aload 8, 2) := by decide +kernel
theorem dX_callPoint_43 : decode bX_callPoint 43 = .ok (.dup, 1) := by decide +kernel
theorem dX_callPoint_44 : decode bX_callPoint 44 = .ok (.getfield 140, 3) := by decide +kernel
theorem dX_callPoint_47 : decode bX_callPoint 47 = .ok (.iconst 1, 1) := by decide +kernel
theorem dX_callPoint_48 : decode bX_callPoint 48 = .ok (.iadd, 1) := by decide +kernel
theorem dX_callPoint_49 : decode bX_callPoint 49 = .ok (.putfield 140, 3) := by decide +kernel
theorem dX_callPoint_52 : decode bX_callPoint 52 = .ok (.aload_n 0, 1) := by decide +kernel
theorem dX_callPoint_53 : decode bX_callPoint 53 = .ok (.aload 8, 2) := by decide +kernel
theorem dX_callPoint_55 : decode bX_callPoint 55 = .ok (.iload 4, 2) := by decide +kernel
theorem dX_callPoint_57 : decode bX_callPoint 57 = .ok (.iload_n 3, 1) := by decide +kernel
theorem dX_callPoint_58 : decode bX_callPoint 58 = .ok (.invokevirtual 205, 3) := by decide +kernel
theorem dX_callPoint_61 : decode bX_callPoint 61 = .ok (.istore 4, 2) := by decide +kernel
theorem dX_callPoint_63 : decode bX_callPoint 63 = .ok (.iinc 7 1, 3) := by decide +kernel
theorem dX_callPoint_66 : decode bX_callPoint 66 = .ok (.goto (-49), 3) := by decide +kernel
theorem dX_callPoint_69 : decode bX_callPoint 69 = .ok (.iload 4, 2) := by decide +kernel
theorem dX_callPoint_71 : decode bX_callPoint 71 = .ok (.ireturn, 1) := by decide +kernel
theorem dX_isLiveAt_0 : decode bX_isLiveAt 0 = .ok (.aload_n 1, 1) := by decide +kernel
theorem dX_isLiveAt_1 : decode bX_isLiveAt 1 = .ok (.getfield 95, 3) := by decide +kernel
theorem dX_isLiveAt_4 : decode bX_isLiveAt 4 = .ok (.iload_n 2, 1) := by decide +kernel
theorem dX_isLiveAt_5 : decode bX_isLiveAt 5 = .ok (.if_icmp .ne 15, 3) := by decide +kernel
theorem dX_isLiveAt_8 : decode bX_isLiveAt 8 = .ok (.aload_n 0, 1) := by decide +kernel
theorem dX_isLiveAt_9 : decode bX_isLiveAt 9 = .ok (.aload_n 1, 1) := by decide +kernel
theorem dX_isLiveAt_10 : decode bX_isLiveAt 10 = .ok (.invokevirtual 164, 3) := by decide +kernel
theorem dX_isLiveAt_13 : decode bX_isLiveAt 13 = .ok (.ifCond .eq 7, 3) := by decide +kernel
theorem dX_isLiveAt_16 : decode bX_isLiveAt 16 = .ok (.iconst 1, 1) := by decide +kernel
theorem dX_isLiveAt_17 : decode bX_isLiveAt 17 = .ok (.goto 4, 3) := by decide +kernel
theorem dX_isLiveAt_20 : decode bX_isLiveAt 20 = .ok (.iconst 0, 1) := by decide +kernel
theorem dX_isLiveAt_21 : decode bX_isLiveAt 21 = .ok (.ireturn, 1) := by decide +kernel
theorem dX_isLive_0 : decode bX_isLive 0 = .ok (.aload_n 1, 1) := by decide +kernel
theorem dX_isLive_1 : decode bX_isLive 1 = .ok (.getfield 58, 3) := by decide +kernel
theorem dX_isLive_4 : decode bX_isLive 4 = .ok (.ifCond .eq 30, 3) := by decide +kernel
theorem dX_isLive_7 : decode bX_isLive 7 = .ok (.aload_n 1, 1) := by decide +kernel
theorem dX_isLive_8 : decode bX_isLive 8 = .ok (.invokevirtual 133, 3) := by decide +kernel
theorem dX_isLive_11 : decode bX_isLive 11 = .ok (.ifCond .ne 23, 3) := by decide +kernel
theorem dX_isLive_14 : decode bX_isLive 14 = .ok (.aload_n 0, 1) := by decide +kernel
theorem dX_isLive_15 : decode bX_isLive 15 = .ok (.getfield 11, 3) := by decide +kernel
theorem dX_isLive_18 : decode bX_isLive 18 = .ok (.aload_n 1, 1) := by decide +kernel
theorem dX_isLive_19 : decode bX_isLive 19 = .ok (.getfield 55, 3) := by decide +kernel
theorem dX_isLive_22 : decode bX_isLive 22 = .ok (.aaload, 1) := by decide +kernel
theorem dX_isLive_23 : decode bX_isLive 23 = .ok (.getfield 48, 3) := by decide +kernel
theorem dX_isLive_26 : decode bX_isLive 26 = .ok (.iconst 2, 1) := by decide +kernel
theorem dX_isLive_27 : decode bX_isLive 27 = .ok (.if_icmp .ne 7, 3) := by decide +kernel
theorem dX_isLive_30 : decode bX_isLive 30 = .ok (.iconst 1, 1) := by decide +kernel
theorem dX_isLive_31 : decode bX_isLive 31 = .ok (.goto 4, 3) := by decide +kernel
theorem dX_isLive_34 : decode bX_isLive 34 = .ok (.iconst 0, 1) := by decide +kernel
theorem dX_isLive_35 : decode bX_isLive 35 = .ok (.ireturn, 1) := by decide +kernel
theorem dE_isShutOut_0 : decode bE_isShutOut 0 = .ok (.aload_n 0, 1) := by decide +kernel
theorem dE_isShutOut_1 : decode bE_isShutOut 1 = .ok (.getfield 15, 3) := by decide +kernel
theorem dE_isShutOut_4 : decode bE_isShutOut 4 = .ok (.ifCond .eq 15, 3) := by decide +kernel
theorem dE_isShutOut_7 : decode bE_isShutOut 7 = .ok (.aload_n 0, 1) := by decide +kernel
theorem dE_isShutOut_8 : decode bE_isShutOut 8 = .ok (.getfield 19, 3) := by decide +kernel
theorem dE_isShutOut_11 : decode bE_isShutOut 11 = .ok (.iconst 3, 1) := by decide +kernel
theorem dE_isShutOut_12 : decode bE_isShutOut 12 = .ok (.if_icmp .lt 7, 3) := by decide +kernel
theorem dE_isShutOut_15 : decode bE_isShutOut 15 = .ok (.iconst 1, 1) := by decide +kernel
theorem dE_isShutOut_16 : decode bE_isShutOut 16 = .ok (.goto 4, 3) := by decide +kernel
theorem dE_isShutOut_19 : decode bE_isShutOut 19 = .ok (.iconst 0, 1) := by decide +kernel
theorem dE_isShutOut_20 : decode bE_isShutOut 20 = .ok (.ireturn, 1) := by decide +kernel
theorem dX_passThrough_0 : decode bX_passThrough 0 = .ok (.aload_n 1, 1) := by decide +kernel
theorem dX_passThrough_1 : decode bX_passThrough 1 = .ok (.getfield 98, 3) := by decide +kernel
theorem dX_passThrough_4 : decode bX_passThrough 4 = .ok (.tableswitch 133 0 8 #[52, 59, 66, 73, 80, 89, 97, 119, 126], 52) := by decide +kernel
theorem dX_passThrough_56 : decode bX_passThrough 56 = .ok (.iload_n 2, 1) := by decide +kernel
theorem dX_passThrough_57 : decode bX_passThrough 57 = .ok (.aload_n 1, 1) := by decide +kernel
theorem dX_passThrough_58 : decode bX_passThrough 58 = .ok (.getfield 101, 3) := by decide +kernel
theorem dX_passThrough_61 : decode bX_passThrough 61 = .ok (.iadd, 1) := by decide +kernel
theorem dX_passThrough_62 : decode bX_passThrough 62 = .ok (.ireturn, 1) := by decide +kernel
theorem dX_passThrough_63 : decode bX_passThrough 63 = .ok (.aload_n 0, 1) := by decide +kernel
theorem dX_passThrough_64 : decode bX_passThrough 64 = .ok (.aload_n 1, 1) := by decide +kernel
theorem dX_passThrough_65 : decode bX_passThrough 65 = .ok (.iload_n 2, 1) := by decide +kernel
theorem dX_passThrough_66 : decode bX_passThrough 66 = .ok (.invokevirtual 209, 3) := by decide +kernel
theorem dX_passThrough_69 : decode bX_passThrough 69 = .ok (.ireturn, 1) := by decide +kernel
theorem dX_passThrough_70 : decode bX_passThrough 70 = .ok (.aload_n 0, 1) := by decide +kernel
theorem dX_passThrough_71 : decode bX_passThrough 71 = .ok (.aload_n 1, 1) := by decide +kernel
theorem dX_passThrough_72 : decode bX_passThrough 72 = .ok (.iload_n 2, 1) := by decide +kernel
theorem dX_passThrough_73 : decode bX_passThrough 73 = .ok (.invokevirtual 213, 3) := by decide +kernel
theorem dX_passThrough_76 : decode bX_passThrough 76 = .ok (.ireturn, 1) := by decide +kernel
theorem dX_passThrough_77 : decode bX_passThrough 77 = .ok (.aload_n 0, 1) := by decide +kernel
theorem dX_passThrough_78 : decode bX_passThrough 78 = .ok (.aload_n 1, 1) := by decide +kernel
theorem dX_passThrough_79 : decode bX_passThrough 79 = .ok (.iload_n 2, 1) := by decide +kernel
theorem dX_passThrough_80 : decode bX_passThrough 80 = .ok (.invokevirtual 216, 3) := by decide +kernel
theorem dX_passThrough_83 : decode bX_passThrough 83 = .ok (.ireturn, 1) := by decide +kernel
theorem dX_passThrough_84 : decode bX_passThrough 84 = .ok (.aload_n 0, 1) := by decide +kernel
theorem dX_passThrough_85 : decode bX_passThrough 85 = .ok (.aload_n 1, 1) := by decide +kernel
theorem dX_passThrough_86 : decode bX_passThrough 86 = .ok (.iconst 5, 1) := by decide +kernel
theorem dX_passThrough_87 : decode bX_passThrough 87 = .ok (.iconst (-1), 1) := by decide +kernel
theorem dX_passThrough_88 : decode bX_passThrough 88 = .ok (.iload_n 2, 1) := by decide +kernel
theorem dX_passThrough_89 : decode bX_passThrough 89 = .ok (.invokevirtual 219, 3) := by decide +kernel
theorem dX_passThrough_92 : decode bX_passThrough 92 = .ok (.ireturn, 1) := by decide +kernel
theorem dX_passThrough_93 : decode bX_passThrough 93 = .ok (.aload_n 0, 1) := by decide +kernel
theorem dX_passThrough_94 : decode bX_passThrough 94 = .ok (.aload_n 1, 1) := by decide +kernel
theorem dX_passThrough_95 : decode bX_passThrough 95 = .ok (.iload_n 2, 1) := by decide +kernel
theorem dX_passThrough_96 : decode bX_passThrough 96 = .ok (.iload_n 3, 1) := by decide +kernel
theorem dX_passThrough_97 : decode bX_passThrough 97 = .ok (.invokevirtual 223, 3) := by decide +kernel
theorem dX_passThrough_100 : decode bX_passThrough 100 = .ok (.ireturn, 1) := by decide +kernel
theorem dX_passThrough_101 : decode bX_passThrough 101 = .ok (.iload_n 2, 1) := by decide +kernel
theorem dX_passThrough_102 : decode bX_passThrough 102 = .ok (.aload_n 1, 1) := by decide +kernel
theorem dX_passThrough_103 : decode bX_passThrough 103 = .ok (.getfield 101, 3) := by decide +kernel
theorem dX_passThrough_106 : decode bX_passThrough 106 = .ok (.if_icmp .ge 7, 3) := by decide +kernel
theorem dX_passThrough_109 : decode bX_passThrough 109 = .ok (.iload_n 2, 1) := by decide +kernel
theorem dX_passThrough_110 : decode bX_passThrough 110 = .ok (.goto 12, 3) := by decide +kernel
theorem dX_passThrough_113 : decode bX_passThrough 113 = .ok (.aload_n 0, 1) := by decide +kernel
theorem dX_passThrough_114 : decode bX_passThrough 114 = .ok (.aload_n 1, 1) := by decide +kernel
theorem dX_passThrough_115 : decode bX_passThrough 115 = .ok (.bipush 6, 2) := by decide +kernel
theorem dX_passThrough_117 : decode bX_passThrough 117 = .ok (.iconst (-1), 1) := by decide +kernel
theorem dX_passThrough_118 : decode bX_passThrough 118 = .ok (.iload_n 2, 1) := by decide +kernel
theorem dX_passThrough_119 : decode bX_passThrough 119 = .ok (.invokevirtual 219, 3) := by decide +kernel
theorem dX_passThrough_122 : decode bX_passThrough 122 = .ok (.ireturn, 1) := by decide +kernel
theorem dX_passThrough_123 : decode bX_passThrough 123 = .ok (.iload_n 2, 1) := by decide +kernel
theorem dX_passThrough_124 : decode bX_passThrough 124 = .ok (.aload_n 1, 1) := by decide +kernel
theorem dX_passThrough_125 : decode bX_passThrough 125 = .ok (.getfield 140, 3) := by decide +kernel
theorem dX_passThrough_128 : decode bX_passThrough 128 = .ok (.iadd, 1) := by decide +kernel
theorem dX_passThrough_129 : decode bX_passThrough 129 = .ok (.ireturn, 1) := by decide +kernel
theorem dX_passThrough_130 : decode bX_passThrough 130 = .ok (.aload_n 0, 1) := by decide +kernel
theorem dX_passThrough_131 : decode bX_passThrough 131 = .ok (.aload_n 1, 1) := by decide +kernel
theorem dX_passThrough_132 : decode bX_passThrough 132 = .ok (.iload_n 2, 1) := by decide +kernel
theorem dX_passThrough_133 : decode bX_passThrough 133 = .ok (.invokevirtual 226, 3) := by decide +kernel
theorem dX_passThrough_136 : decode bX_passThrough 136 = .ok (.ireturn, 1) := by decide +kernel
theorem dX_passThrough_137 : decode bX_passThrough 137 = .ok (.iload_n 2, 1) := by decide +kernel
theorem dX_passThrough_138 : decode bX_passThrough 138 = .ok (.ireturn, 1) := by decide +kernel
theorem dX_divide_0 : decode bX_divide 0 = .ok (.aload_n 1, 1) := by decide +kernel
theorem dX_divide_1 : decode bX_divide 1 = .ok (.getfield 101, 3) := by decide +kernel
theorem dX_divide_4 : decode bX_divide 4 = .ok (.ifCond .ne 12, 3) := by decide +kernel
theorem dX_divide_7 : decode bX_divide 7 = .ok (.aload_n 0, 1) := by decide +kernel
theorem dX_divide_8 : decode bX_divide 8 = .ok (.aload_n 1, 1) := by decide +kernel
theorem dX_divide_9 : decode bX_divide 9 = .ok (.iconst 1, 1) := by decide +kernel
theorem dX_divide_10 : decode bX_divide 10 = .ok (.iconst (-1), 1) := by decide +kernel
theorem dX_divide_11 : decode bX_divide 11 = .ok (.iload_n 2, 1) := by decide +kernel
theorem dX_divide_12 : decode bX_divide 12 = .ok (.invokevirtual 219, 3) := by decide +kernel
theorem dX_divide_15 : decode bX_divide 15 = .ok (.ireturn, 1) := by decide +kernel
theorem dX_divide_16 : decode bX_divide 16 = .ok (.iload_n 2, 1) := by decide +kernel
theorem dX_divide_17 : decode bX_divide 17 = .ok (.aload_n 1, 1) := by decide +kernel
theorem dX_divide_18 : decode bX_divide 18 = .ok (.getfield 101, 3) := by decide +kernel
theorem dX_divide_21 : decode bX_divide 21 = .ok (.idiv, 1) := by decide +kernel
theorem dX_divide_22 : decode bX_divide 22 = .ok (.ireturn, 1) := by decide +kernel
theorem dX_faulted_0 : decode bX_faulted 0 = .ok (.aload_n 1, 1) := by decide +kernel
theorem dX_faulted_1 : decode bX_faulted 1 = .ok (.dup, 1) := by decide +kernel
theorem dX_faulted_2 : decode bX_faulted 2 = .ok (.getfield 137, 3) := by decide +kernel
theorem dX_faulted_5 : decode bX_faulted 5 = .ok (.iconst 1, 1) := by decide +kernel
theorem dX_faulted_6 : decode bX_faulted 6 = .ok (.iadd, 1) := by decide +kernel
theorem dX_faulted_7 : decode bX_faulted 7 = .ok (.putfield 137, 3) := by decide +kernel
theorem dX_faulted_10 : decode bX_faulted 10 = .ok (.aload_n 0, 1) := by decide +kernel
theorem dX_faulted_11 : decode bX_faulted 11 = .ok (.getfield 33, 3) := by decide +kernel
theorem dX_faulted_14 : decode bX_faulted 14 = .ok (.aload_n 1, 1) := by decide +kernel
theorem dX_faulted_15 : decode bX_faulted 15 = .ok (.getfield 112, 3) := by decide +kernel
theorem dX_faulted_18 : decode bX_faulted 18 = .ok (.invokevirtual 192, 3) := by decide +kernel
theorem dX_faulted_21 : decode bX_faulted 21 = .ok (.aload_n 0, 1) := by decide +kernel
theorem dX_faulted_22 : decode bX_faulted 22 = .ok (.getfield 36, 3) := by decide +kernel
theorem dX_faulted_25 : decode bX_faulted 25 = .ok (.iload_n 2, 1) := by decide +kernel
theorem dX_faulted_26 : decode bX_faulted 26 = .ok (.invokevirtual 192, 3) := by decide +kernel
theorem dX_faulted_29 : decode bX_faulted 29 = .ok (.aload_n 0, 1) := by decide +kernel
theorem dX_faulted_30 : decode bX_faulted 30 = .ok (.getfield 39, 3) := by decide +kernel
theorem dX_faulted_33 : decode bX_faulted 33 = .ok (.iload_n 3, 1) := by decide +kernel
theorem dX_faulted_34 : decode bX_faulted 34 = .ok (.invokevirtual 192, 3) := by decide +kernel
theorem dX_faulted_37 : decode bX_faulted 37 = .ok (.aload_n 1, 1) := by decide +kernel
theorem dX_faulted_38 : decode bX_faulted 38 = .ok (.invokevirtual 133, 3) := by decide +kernel
theorem dX_faulted_41 : decode bX_faulted 41 = .ok (.ifCond .eq 17, 3) := by decide +kernel
theorem dX_faulted_44 : decode bX_faulted 44 = .ok (.aload_n 0, 1) := by decide +kernel
theorem dX_faulted_45 : decode bX_faulted 45 = .ok (.getfield 29, 3) := by decide +kernel
theorem dX_faulted_48 : decode bX_faulted 48 = .ok (.bipush 60, 2) := by decide +kernel
theorem dX_faulted_50 : decode bX_faulted 50 = .ok (.aload_n 1, 1) := by decide +kernel
theorem dX_faulted_51 : decode bX_faulted 51 = .ok (.getfield 112, 3) := by decide +kernel
theorem dX_faulted_54 : decode bX_faulted 54 = .ok (.iadd, 1) := by decide +kernel
theorem dX_faulted_55 : decode bX_faulted 55 = .ok (.invokevirtual 192, 3) := by decide +kernel
theorem dX_faulted_58 : decode bX_faulted 58 = .ok (.iload 4, 2) := by decide +kernel
theorem dX_faulted_60 : decode bX_faulted 60 = .ok (.ireturn, 1) := by decide +kernel
theorem dX_look_0 : decode bX_look 0 = .ok (.iload_n 2, 1) := by decide +kernel
theorem dX_look_1 : decode bX_look 1 = .ok (.aload_n 1, 1) := by decide +kernel
theorem dX_look_2 : decode bX_look 2 = .ok (.getfield 101, 3) := by decide +kernel
theorem dX_look_5 : decode bX_look 5 = .ok (.ixor, 1) := by decide +kernel
theorem dX_look_6 : decode bX_look 6 = .ok (.bipush 15, 2) := by decide +kernel
theorem dX_look_8 : decode bX_look 8 = .ok (.iand, 1) := by decide +kernel
theorem dX_look_9 : decode bX_look 9 = .ok (.istore_n 3, 1) := by decide +kernel
theorem dX_look_10 : decode bX_look 10 = .ok (.iload_n 3, 1) := by decide +kernel
theorem dX_look_11 : decode bX_look 11 = .ok (.getstatic 229, 3) := by decide +kernel
theorem dX_look_14 : decode bX_look 14 = .ok (.arraylength, 1) := by decide +kernel
theorem dX_look_15 : decode bX_look 15 = .ok (.if_icmp .lt 12, 3) := by decide +kernel
theorem dX_look_18 : decode bX_look 18 = .ok (.aload_n 0, 1) := by decide +kernel
theorem dX_look_19 : decode bX_look 19 = .ok (.aload_n 1, 1) := by decide +kernel
theorem dX_look_20 : decode bX_look 20 = .ok (.iconst 2, 1) := by decide +kernel
theorem dX_look_21 : decode bX_look 21 = .ok (.iconst (-1), 1) := by decide +kernel
theorem dX_look_22 : decode bX_look 22 = .ok (.iload_n 2, 1) := by decide +kernel
theorem dX_look_23 : decode bX_look 23 = .ok (.invokevirtual 219, 3) := by decide +kernel
theorem dX_look_26 : decode bX_look 26 = .ok (.ireturn, 1) := by decide +kernel
theorem dX_look_27 : decode bX_look 27 = .ok (.getstatic 229, 3) := by decide +kernel
theorem dX_look_30 : decode bX_look 30 = .ok (.iload_n 3, 1) := by decide +kernel
theorem dX_look_31 : decode bX_look 31 = .ok (.iaload, 1) := by decide +kernel
theorem dX_look_32 : decode bX_look 32 = .ok (.ireturn, 1) := by decide +kernel
theorem dX_ask_0 : decode bX_ask 0 = .ok (.aload_n 0, 1) := by decide +kernel
theorem dX_ask_1 : decode bX_ask 1 = .ok (.getfield 11, 3) := by decide +kernel
theorem dX_ask_4 : decode bX_ask 4 = .ok (.aload_n 1, 1) := by decide +kernel
theorem dX_ask_5 : decode bX_ask 5 = .ok (.getfield 101, 3) := by decide +kernel
theorem dX_ask_8 : decode bX_ask 8 = .ok (.bipush 7, 2) := by decide +kernel
theorem dX_ask_10 : decode bX_ask 10 = .ok (.iand, 1) := by decide +kernel
theorem dX_ask_11 : decode bX_ask 11 = .ok (.aaload, 1) := by decide +kernel
theorem dX_ask_12 : decode bX_ask 12 = .ok (.astore_n 3, 1) := by decide +kernel
theorem dX_ask_13 : decode bX_ask 13 = .ok (.aload_n 3, 1) := by decide +kernel
theorem dX_ask_14 : decode bX_ask 14 = .ok (.getfield 48, 3) := by decide +kernel
theorem dX_ask_17 : decode bX_ask 17 = .ok (.iconst 2, 1) := by decide +kernel
theorem dX_ask_18 : decode bX_ask 18 = .ok (.if_icmp .ne 10, 3) := by decide +kernel
theorem dX_ask_21 : decode bX_ask 21 = .ok (.aload_n 3, 1) := by decide +kernel
theorem dX_ask_22 : decode bX_ask 22 = .ok (.getfield 83, 3) := by decide +kernel
theorem dX_ask_25 : decode bX_ask 25 = .ok (.ifCond .ne 15, 3) := by decide +kernel
theorem dX_ask_28 : decode bX_ask 28 = .ok (.aload_n 0, 1) := by decide +kernel
theorem dX_ask_29 : decode bX_ask 29 = .ok (.aload_n 1, 1) := by decide +kernel
theorem dX_ask_30 : decode bX_ask 30 = .ok (.iconst 4, 1) := by decide +kernel
theorem dX_ask_31 : decode bX_ask 31 = .ok (.aload_n 3, 1) := by decide +kernel
theorem dX_ask_32 : decode bX_ask 32 = .ok (.getfield 185, 3) := by decide +kernel
theorem dX_ask_35 : decode bX_ask 35 = .ok (.iload_n 2, 1) := by decide +kernel
theorem dX_ask_36 : decode bX_ask 36 = .ok (.invokevirtual 219, 3) := by decide +kernel
theorem dX_ask_39 : decode bX_ask 39 = .ok (.ireturn, 1) := by decide +kernel
theorem dX_ask_40 : decode bX_ask 40 = .ok (.aload_n 3, 1) := by decide +kernel
theorem dX_ask_41 : decode bX_ask 41 = .ok (.getfield 83, 3) := by decide +kernel
theorem dX_ask_44 : decode bX_ask 44 = .ok (.iconst 2, 1) := by decide +kernel
theorem dX_ask_45 : decode bX_ask 45 = .ok (.if_icmp .ne 15, 3) := by decide +kernel
theorem dX_ask_48 : decode bX_ask 48 = .ok (.aload_n 0, 1) := by decide +kernel
theorem dX_ask_49 : decode bX_ask 49 = .ok (.aload_n 1, 1) := by decide +kernel
theorem dX_ask_50 : decode bX_ask 50 = .ok (.iconst 3, 1) := by decide +kernel
theorem dX_ask_51 : decode bX_ask 51 = .ok (.aload_n 3, 1) := by decide +kernel
theorem dX_ask_52 : decode bX_ask 52 = .ok (.getfield 185, 3) := by decide +kernel
theorem dX_ask_55 : decode bX_ask 55 = .ok (.iload_n 2, 1) := by decide +kernel
theorem dX_ask_56 : decode bX_ask 56 = .ok (.invokevirtual 219, 3) := by decide +kernel
theorem dX_ask_59 : decode bX_ask 59 = .ok (.ireturn, 1) := by decide +kernel
theorem dX_ask_60 : decode bX_ask 60 = .ok (.iload_n 2, 1) := by decide +kernel
theorem dX_ask_61 : decode bX_ask 61 = .ok (.aload_n 3, 1) := by decide +kernel
theorem dX_ask_62 : decode bX_ask 62 = .ok (.getfield 86, 3) := by decide +kernel
theorem dX_ask_65 : decode bX_ask 65 = .ok (.iadd, 1) := by decide +kernel
theorem dX_ask_66 : decode bX_ask 66 = .ok (.ireturn, 1) := by decide +kernel
theorem dX_nest_0 : decode bX_nest 0 = .ok (.iload_n 3, 1) := by decide +kernel
theorem dX_nest_1 : decode bX_nest 1 = .ok (.iconst 3, 1) := by decide +kernel
theorem dX_nest_2 : decode bX_nest 2 = .ok (.if_icmp .lt 16, 3) := by decide +kernel
theorem dX_nest_5 : decode bX_nest 5 = .ok (.aload_n 0, 1) := by decide +kernel
theorem dX_nest_6 : decode bX_nest 6 = .ok (.aload_n 1, 1) := by decide +kernel
theorem dX_nest_7 : decode bX_nest 7 = .ok (.bipush 7, 2) := by decide +kernel
theorem dX_nest_9 : decode bX_nest 9 = .ok (.aload_n 1, 1) := by decide +kernel
theorem dX_nest_10 : decode bX_nest 10 = .ok (.getfield 55, 3) := by decide +kernel
theorem dX_nest_13 : decode bX_nest 13 = .ok (.iload_n 2, 1) := by decide +kernel
theorem dX_nest_14 : decode bX_nest 14 = .ok (.invokevirtual 219, 3) := by decide +kernel
theorem dX_nest_17 : decode bX_nest 17 = .ok (.ireturn, 1) := by decide +kernel
theorem dX_nest_18 : decode bX_nest 18 = .ok (.aload_n 1, 1) := by decide +kernel
theorem dX_nest_19 : decode bX_nest 19 = .ok (.getfield 101, 3) := by decide +kernel
theorem dX_nest_22 : decode bX_nest 22 = .ok (.iconst 3, 1) := by decide +kernel
theorem dX_nest_23 : decode bX_nest 23 = .ok (.iand, 1) := by decide +kernel
theorem dX_nest_24 : decode bX_nest 24 = .ok (.istore 4, 2) := by decide +kernel
theorem dX_nest_26 : decode bX_nest 26 = .ok (.aload_n 0, 1) := by decide +kernel
theorem dX_nest_27 : decode bX_nest 27 = .ok (.iload 4, 2) := by decide +kernel
theorem dX_nest_29 : decode bX_nest 29 = .ok (.iconst 3, 1) := by decide +kernel
theorem dX_nest_30 : decode bX_nest 30 = .ok (.if_icmp .ne 7, 3) := by decide +kernel
theorem dX_nest_33 : decode bX_nest 33 = .ok (.iconst 0, 1) := by decide +kernel
theorem dX_nest_34 : decode bX_nest 34 = .ok (.goto 5, 3) := by decide +kernel
theorem dX_nest_37 : decode bX_nest 37 = .ok (.iload 4, 2) := by decide +kernel
theorem dX_nest_39 : decode bX_nest 39 = .ok (.iload_n 2, 1) := by decide +kernel
theorem dX_nest_40 : decode bX_nest 40 = .ok (.iconst 1, 1) := by decide +kernel
theorem dX_nest_41 : decode bX_nest 41 = .ok (.iadd, 1) := by decide +kernel
theorem dX_nest_42 : decode bX_nest 42 = .ok (.iload_n 3, 1) := by decide +kernel
theorem dX_nest_43 : decode bX_nest 43 = .ok (.iconst 1, 1) := by decide +kernel
theorem dX_nest_44 : decode bX_nest 44 = .ok (.iadd, 1) := by decide +kernel
theorem dX_nest_45 : decode bX_nest 45 = .ok (.invokevirtual 126, 3) := by decide +kernel
theorem dX_nest_48 : decode bX_nest 48 = .ok (.ireturn, 1) := by decide +kernel
theorem dX_bracket_0 : decode bX_bracket 0 = .ok (.aload_n 0, 1) := by decide +kernel
theorem dX_bracket_1 : decode bX_bracket 1 = .ok (.getfield 29, 3) := by decide +kernel
theorem dX_bracket_4 : decode bX_bracket 4 = .ok (.bipush 40, 2) := by decide +kernel
theorem dX_bracket_6 : decode bX_bracket 6 = .ok (.aload_n 1, 1) := by decide +kernel
theorem dX_bracket_7 : decode bX_bracket 7 = .ok (.getfield 112, 3) := by decide +kernel
theorem dX_bracket_10 : decode bX_bracket 10 = .ok (.iadd, 1) := by decide +kernel
theorem dX_bracket_11 : decode bX_bracket 11 = .ok (.invokevirtual 192, 3) := by decide +kernel
theorem dX_bracket_14 : decode bX_bracket 14 = .ok (.iload_n 2, 1) := by decide +kernel
theorem dX_bracket_15 : decode bX_bracket 15 = .ok (.aload_n 1, 1) := by decide +kernel
theorem dX_bracket_16 : decode bX_bracket 16 = .ok (.getfield 101, 3) := by decide +kernel
theorem dX_bracket_19 : decode bX_bracket 19 = .ok (.if_icmp .ne 13, 3) := by decide +kernel
theorem dX_bracket_22 : decode bX_bracket 22 = .ok (.aload_n 0, 1) := by decide +kernel
theorem dX_bracket_23 : decode bX_bracket 23 = .ok (.aload_n 1, 1) := by decide +kernel
theorem dX_bracket_24 : decode bX_bracket 24 = .ok (.bipush 6, 2) := by decide +kernel
theorem dX_bracket_26 : decode bX_bracket 26 = .ok (.iconst (-1), 1) := by decide +kernel
theorem dX_bracket_27 : decode bX_bracket 27 = .ok (.iload_n 2, 1) := by decide +kernel
theorem dX_bracket_28 : decode bX_bracket 28 = .ok (.invokevirtual 219, 3) := by decide +kernel
theorem dX_bracket_31 : decode bX_bracket 31 = .ok (.ireturn, 1) := by decide +kernel
theorem dX_bracket_32 : decode bX_bracket 32 = .ok (.iconst 2, 1) := by decide +kernel
theorem dX_bracket_33 : decode bX_bracket 33 = .ok (.iload_n 2, 1) := by decide +kernel
theorem dX_bracket_34 : decode bX_bracket 34 = .ok (.imul, 1) := by decide +kernel
theorem dX_bracket_35 : decode bX_bracket 35 = .ok (.ireturn, 1) := by decide +kernel
theorem dX_forgive_0 : decode bX_forgive 0 = .ok (.aload_n 0, 1) := by decide +kernel
theorem dX_forgive_1 : decode bX_forgive 1 = .ok (.iload_n 1, 1) := by decide +kernel
theorem dX_forgive_2 : decode bX_forgive 2 = .ok (.invokevirtual 130, 3) := by decide +kernel
theorem dX_forgive_5 : decode bX_forgive 5 = .ok (.ifCond .eq 15, 3) := by decide +kernel
theorem dX_forgive_8 : decode bX_forgive 8 = .ok (.aload_n 0, 1) := by decide +kernel
theorem dX_forgive_9 : decode bX_forgive 9 = .ok (.getfield 17, 3) := by decide +kernel
theorem dX_forgive_12 : decode bX_forgive 12 = .ok (.iload_n 1, 1) := by decide +kernel
theorem dX_forgive_13 : decode bX_forgive 13 = .ok (.aaload, 1) := by decide +kernel
theorem dX_forgive_14 : decode bX_forgive 14 = .ok (.invokevirtual 133, 3) := by decide +kernel
theorem dX_forgive_17 : decode bX_forgive 17 = .ok (.ifCond .ne 5, 3) := by decide +kernel
theorem dX_forgive_20 : decode bX_forgive 20 = .ok (.iconst (-1), 1) := by decide +kernel
theorem dX_forgive_21 : decode bX_forgive 21 = .ok (.ireturn, 1) := by decide +kernel
theorem dX_forgive_22 : decode bX_forgive 22 = .ok (.aload_n 0, 1) := by decide +kernel
theorem dX_forgive_23 : decode bX_forgive 23 = .ok (.getfield 17, 3) := by decide +kernel
theorem dX_forgive_26 : decode bX_forgive 26 = .ok (.iload_n 1, 1) := by decide +kernel
theorem dX_forgive_27 : decode bX_forgive 27 = .ok (.aaload, 1) := by decide +kernel
theorem dX_forgive_28 : decode bX_forgive 28 = .ok (.iconst 0, 1) := by decide +kernel
theorem dX_forgive_29 : decode bX_forgive 29 = .ok (.putfield 137, 3) := by decide +kernel
theorem dX_forgive_32 : decode bX_forgive 32 = .ok (.iconst 0, 1) := by decide +kernel
theorem dX_forgive_33 : decode bX_forgive 33 = .ok (.ireturn, 1) := by decide +kernel
theorem dX_isExtension_0 : decode bX_isExtension 0 = .ok (.iload_n 1, 1) := by decide +kernel
theorem dX_isExtension_1 : decode bX_isExtension 1 = .ok (.ifCond .lt 25, 3) := by decide +kernel
theorem dX_isExtension_4 : decode bX_isExtension 4 = .ok (.iload_n 1, 1) := by decide +kernel
theorem dX_isExtension_5 : decode bX_isExtension 5 = .ok (.bipush 16, 2) := by decide +kernel
theorem dX_isExtension_7 : decode bX_isExtension 7 = .ok (.if_icmp .ge 19, 3) := by decide +kernel
theorem dX_isExtension_10 : decode bX_isExtension 10 = .ok (.aload_n 0, 1) := by decide +kernel
theorem dX_isExtension_11 : decode bX_isExtension 11 = .ok (.getfield 17, 3) := by decide +kernel
theorem dX_isExtension_14 : decode bX_isExtension 14 = .ok (.iload_n 1, 1) := by decide +kernel
theorem dX_isExtension_15 : decode bX_isExtension 15 = .ok (.aaload, 1) := by decide +kernel
theorem dX_isExtension_16 : decode bX_isExtension 16 = .ok (.getfield 58, 3) := by decide +kernel
theorem dX_isExtension_19 : decode bX_isExtension 19 = .ok (.ifCond .eq 7, 3) := by decide +kernel
theorem dX_isExtension_22 : decode bX_isExtension 22 = .ok (.iconst 1, 1) := by decide +kernel
theorem dX_isExtension_23 : decode bX_isExtension 23 = .ok (.goto 4, 3) := by decide +kernel
theorem dX_isExtension_26 : decode bX_isExtension 26 = .ok (.iconst 0, 1) := by decide +kernel
theorem dX_isExtension_27 : decode bX_isExtension 27 = .ok (.ireturn, 1) := by decide +kernel
theorem dX_state_0 : decode bX_state 0 = .ok (.iload_n 1, 1) := by decide +kernel
theorem dX_state_1 : decode bX_state 1 = .ok (.invokestatic 44, 3) := by decide +kernel
theorem dX_state_4 : decode bX_state 4 = .ok (.ifCond .eq 15, 3) := by decide +kernel
theorem dX_state_7 : decode bX_state 7 = .ok (.aload_n 0, 1) := by decide +kernel
theorem dX_state_8 : decode bX_state 8 = .ok (.getfield 11, 3) := by decide +kernel
theorem dX_state_11 : decode bX_state 11 = .ok (.iload_n 1, 1) := by decide +kernel
theorem dX_state_12 : decode bX_state 12 = .ok (.aaload, 1) := by decide +kernel
theorem dX_state_13 : decode bX_state 13 = .ok (.getfield 48, 3) := by decide +kernel
theorem dX_state_16 : decode bX_state 16 = .ok (.goto 4, 3) := by decide +kernel
theorem dX_state_19 : decode bX_state 19 = .ok (.iconst (-1), 1) := by decide +kernel
theorem dX_state_20 : decode bX_state 20 = .ok (.ireturn, 1) := by decide +kernel
theorem dX_extension_0 : decode bX_extension 0 = .ok (.aload_n 0, 1) := by decide +kernel
theorem dX_extension_1 : decode bX_extension 1 = .ok (.iload_n 1, 1) := by decide +kernel
theorem dX_extension_2 : decode bX_extension 2 = .ok (.invokevirtual 130, 3) := by decide +kernel
theorem dX_extension_5 : decode bX_extension 5 = .ok (.ifCond .ne 5, 3) := by decide +kernel
theorem dX_extension_8 : decode bX_extension 8 = .ok (.iconst (-1), 1) := by decide +kernel
theorem dX_extension_9 : decode bX_extension 9 = .ok (.ireturn, 1) := by decide +kernel
theorem dX_extension_10 : decode bX_extension 10 = .ok (.aload_n 0, 1) := by decide +kernel
theorem dX_extension_11 : decode bX_extension 11 = .ok (.getfield 17, 3) := by decide +kernel
theorem dX_extension_14 : decode bX_extension 14 = .ok (.iload_n 1, 1) := by decide +kernel
theorem dX_extension_15 : decode bX_extension 15 = .ok (.aaload, 1) := by decide +kernel
theorem dX_extension_16 : decode bX_extension 16 = .ok (.astore_n 3, 1) := by decide +kernel
theorem dX_extension_17 : decode bX_extension 17 = .ok (.iload_n 2, 1) := by decide +kernel
theorem dX_extension_18 : decode bX_extension 18 = .ok (.tableswitch 69 0 5 #[38, 43, 48, 53, 58, 63], 38) := by decide +kernel
theorem dX_extension_56 : decode bX_extension 56 = .ok (.aload_n 3, 1) := by decide +kernel
theorem dX_extension_57 : decode bX_extension 57 = .ok (.getfield 55, 3) := by decide +kernel
theorem dX_extension_60 : decode bX_extension 60 = .ok (.ireturn, 1) := by decide +kernel
theorem dX_extension_61 : decode bX_extension 61 = .ok (.aload_n 3, 1) := by decide +kernel
theorem dX_extension_62 : decode bX_extension 62 = .ok (.getfield 95, 3) := by decide +kernel
theorem dX_extension_65 : decode bX_extension 65 = .ok (.ireturn, 1) := by decide +kernel
theorem dX_extension_66 : decode bX_extension 66 = .ok (.aload_n 3, 1) := by decide +kernel
theorem dX_extension_67 : decode bX_extension 67 = .ok (.getfield 98, 3) := by decide +kernel
theorem dX_extension_70 : decode bX_extension 70 = .ok (.ireturn, 1) := by decide +kernel
theorem dX_extension_71 : decode bX_extension 71 = .ok (.aload_n 3, 1) := by decide +kernel
theorem dX_extension_72 : decode bX_extension 72 = .ok (.getfield 137, 3) := by decide +kernel
theorem dX_extension_75 : decode bX_extension 75 = .ok (.ireturn, 1) := by decide +kernel
theorem dX_extension_76 : decode bX_extension 76 = .ok (.aload_n 3, 1) := by decide +kernel
theorem dX_extension_77 : decode bX_extension 77 = .ok (.getfield 140, 3) := by decide +kernel
theorem dX_extension_80 : decode bX_extension 80 = .ok (.ireturn, 1) := by decide +kernel
theorem dX_extension_81 : decode bX_extension 81 = .ok (.aload_n 0, 1) := by decide +kernel
theorem dX_extension_82 : decode bX_extension 82 = .ok (.aload_n 3, 1) := by decide +kernel
theorem dX_extension_83 : decode bX_extension 83 = .ok (.invokevirtual 143, 3) := by decide +kernel
theorem dX_extension_86 : decode bX_extension 86 = .ok (.ireturn, 1) := by decide +kernel
theorem dX_extension_87 : decode bX_extension 87 = .ok (.iconst (-1), 1) := by decide +kernel
theorem dX_extension_88 : decode bX_extension 88 = .ok (.ireturn, 1) := by decide +kernel
theorem dX_standing_0 : decode bX_standing 0 = .ok (.aload_n 1, 1) := by decide +kernel
theorem dX_standing_1 : decode bX_standing 1 = .ok (.invokevirtual 133, 3) := by decide +kernel
theorem dX_standing_4 : decode bX_standing 4 = .ok (.ifCond .eq 5, 3) := by decide +kernel
theorem dX_standing_7 : decode bX_standing 7 = .ok (.iconst 2, 1) := by decide +kernel
theorem dX_standing_8 : decode bX_standing 8 = .ok (.ireturn, 1) := by decide +kernel
theorem dX_standing_9 : decode bX_standing 9 = .ok (.aload_n 0, 1) := by decide +kernel
theorem dX_standing_10 : decode bX_standing 10 = .ok (.aload_n 1, 1) := by decide +kernel
theorem dX_standing_11 : decode bX_standing 11 = .ok (.invokevirtual 164, 3) := by decide +kernel
theorem dX_standing_14 : decode bX_standing 14 = .ok (.ifCond .eq 7, 3) := by decide +kernel
theorem dX_standing_17 : decode bX_standing 17 = .ok (.iconst 1, 1) := by decide +kernel
theorem dX_standing_18 : decode bX_standing 18 = .ok (.goto 4, 3) := by decide +kernel
theorem dX_standing_21 : decode bX_standing 21 = .ok (.iconst 0, 1) := by decide +kernel
theorem dX_standing_22 : decode bX_standing 22 = .ok (.ireturn, 1) := by decide +kernel
theorem dX_at_0 : decode bX_at 0 = .ok (.iconst 0, 1) := by decide +kernel
theorem dX_at_1 : decode bX_at 1 = .ok (.istore_n 3, 1) := by decide +kernel
theorem dX_at_2 : decode bX_at 2 = .ok (.aload_n 0, 1) := by decide +kernel
theorem dX_at_3 : decode bX_at 3 = .ok (.getfield 21, 3) := by decide +kernel
theorem dX_at_6 : decode bX_at 6 = .ok (.astore 4, 2) := by decide +kernel
theorem dX_at_8 : decode bX_at 8 = .ok (.aload 4, 2) := by decide +kernel
theorem dX_at_10 : decode bX_at 10 = .ok (.arraylength, 1) := by decide +kernel
theorem dX_at_11 : decode bX_at 11 = .ok (.istore 5, 2) := by decide +kernel
theorem dX_at_13 : decode bX_at 13 = .ok (.iconst 0, 1) := by decide +kernel
theorem dX_at_14 : decode bX_at 14 = .ok (.istore 6, 2) := by decide +kernel
theorem dX_at_16 : decode bX_at 16 = .ok (.iload 6, 2) := by decide +kernel
theorem dX_at_18 : decode bX_at 18 = .ok (.iload 5, 2) := by decide +kernel
theorem dX_at_20 : decode bX_at 20 = .ok (.if_icmp .ge 40, 3) := by decide +kernel
theorem dX_at_23 : decode bX_at 23 = .ok (.aload 4, 2) := by decide +kernel
theorem dX_at_25 : decode bX_at 25 = .ok (.iload 6, 2) := by decide +kernel
theorem dX_at_27 : decode bX_at 27 = .ok (.aaload, 1) := by decide +kernel
theorem dX_at_28 : decode bX_at 28 = .ok (.astore 7, 2) := by decide +kernel
theorem dX_at_30 : decode bX_at 30 = .ok (.aload_n 0, 1) := by decide +kernel
theorem dX_at_31 : decode bX_at 31 = .ok (.aload 7, 2) := by decide +kernel
theorem dX_at_33 : decode bX_at 33 = .ok (.iload_n 1, 1) := by decide +kernel
theorem dX_at_34 : decode bX_at 34 = .ok (.invokevirtual 147, 3) := by decide +kernel
theorem dX_at_37 : decode bX_at 37 = .ok (.ifCond .eq 17, 3) := by decide +kernel
theorem dX_at_40 : decode bX_at 40 = .ok (.iload_n 3, 1) := by decide +kernel
theorem dX_at_41 : decode bX_at 41 = .ok (.iload_n 2, 1) := by decide +kernel
theorem dX_at_42 : decode bX_at 42 = .ok (.if_icmp .ne 9, 3) := by decide +kernel
theorem dX_at_45 : decode bX_at 45 = .ok (.aload 7, 2) := by decide +kernel
theorem dX_at_47 : decode bX_at 47 = .ok (.getfield 112, 3) := by decide +kernel
theorem dX_at_50 : decode bX_at 50 = .ok (.ireturn, 1) := by decide +kernel
theorem dX_at_51 : decode bX_at 51 = .ok (.iinc 3 1, 3) := by decide +kernel
theorem dX_at_54 : decode bX_at 54 = .ok (.iinc 6 1, 3) := by decide +kernel
theorem dX_at_57 : decode bX_at 57 = .ok (.goto (-41), 3) := by decide +kernel
theorem dX_at_60 : decode bX_at 60 = .ok (.iconst (-1), 1) := by decide +kernel
theorem dX_at_61 : decode bX_at 61 = .ok (.ireturn, 1) := by decide +kernel
theorem dX_weight_0 : decode bX_weight 0 = .ok (.dconst 0, 1) := by decide +kernel
theorem dX_weight_1 : decode bX_weight 1 = .ok (.dstore_n 2, 1) := by decide +kernel
theorem dX_weight_2 : decode bX_weight 2 = .ok (.aload_n 0, 1) := by decide +kernel
theorem dX_weight_3 : decode bX_weight 3 = .ok (.getfield 21, 3) := by decide +kernel
theorem dX_weight_6 : decode bX_weight 6 = .ok (.astore 4, 2) := by decide +kernel
theorem dX_weight_8 : decode bX_weight 8 = .ok (.aload 4, 2) := by decide +kernel
theorem dX_weight_10 : decode bX_weight 10 = .ok (.arraylength, 1) := by decide +kernel
theorem dX_weight_11 : decode bX_weight 11 = .ok (.istore 5, 2) := by decide +kernel
theorem dX_weight_13 : decode bX_weight 13 = .ok (.iconst 0, 1) := by decide +kernel
theorem dX_weight_14 : decode bX_weight 14 = .ok (.istore 6, 2) := by decide +kernel
theorem dX_weight_16 : decode bX_weight 16 = .ok (.iload 6, 2) := by decide +kernel
theorem dX_weight_18 : decode bX_weight 18 = .ok (.iload 5, 2) := by decide +kernel
theorem dX_weight_20 : decode bX_weight 20 = .ok (.if_icmp .ge 60, 3) := by decide +kernel
theorem dX_weight_23 : decode bX_weight 23 = .ok (.aload 4, 2) := by decide +kernel
theorem dX_weight_25 : decode bX_weight 25 = .ok (.iload 6, 2) := by decide +kernel
theorem dX_weight_27 : decode bX_weight 27 = .ok (.aaload, 1) := by decide +kernel
theorem dX_weight_28 : decode bX_weight 28 = .ok (.astore 7, 2) := by decide +kernel
theorem dX_weight_30 : decode bX_weight 30 = .ok (.aload_n 0, 1) := by decide +kernel
theorem dX_weight_31 : decode bX_weight 31 = .ok (.aload 7, 2) := by decide +kernel
theorem dX_weight_33 : decode bX_weight 33 = .ok (.iload_n 1, 1) := by decide +kernel
theorem dX_weight_34 : decode bX_weight 34 = .ok (.invokevirtual 147, 3) := by decide +kernel
theorem dX_weight_37 : decode bX_weight 37 = .ok (.ifCond .eq 37, 3) := by decide +kernel
theorem dX_weight_40 : decode bX_weight 40 = .ok (.aload 7, 2) := by decide +kernel
theorem dX_weight_42 : decode bX_weight 42 = .ok (.getfield 104, 3) := by decide +kernel
theorem dX_weight_45 : decode bX_weight 45 = .ok (.dstore 8, 2) := by decide +kernel
theorem dX_weight_47 : decode bX_weight 47 = .ok (.dload 8, 2) := by decide +kernel
theorem dX_weight_49 : decode bX_weight 49 = .ok (.dload 8, 2) := by decide +kernel
theorem dX_weight_51 : decode bX_weight 51 = .ok (.dcmp .l, 1) := by decide +kernel
theorem dX_weight_52 : decode bX_weight 52 = .ok (.ifCond .eq 6, 3) := by decide +kernel
theorem dX_weight_55 : decode bX_weight 55 = .ok (.dload 8, 2) := by decide +kernel
theorem dX_weight_57 : decode bX_weight 57 = .ok (.dreturn, 1) := by decide +kernel
theorem dX_weight_58 : decode bX_weight 58 = .ok (.dload_n 2, 1) := by decide +kernel
theorem dX_weight_59 : decode bX_weight 59 = .ok (.dload 8, 2) := by decide +kernel
theorem dX_weight_61 : decode bX_weight 61 = .ok (.invokestatic 151, 3) := by decide +kernel
theorem dX_weight_64 : decode bX_weight 64 = .ok (.ifCond .eq 5, 3) := by decide +kernel
theorem dX_weight_67 : decode bX_weight 67 = .ok (.dconst 0, 1) := by decide +kernel
theorem dX_weight_68 : decode bX_weight 68 = .ok (.dreturn, 1) := by decide +kernel
theorem dX_weight_69 : decode bX_weight 69 = .ok (.dload_n 2, 1) := by decide +kernel
theorem dX_weight_70 : decode bX_weight 70 = .ok (.dload 8, 2) := by decide +kernel
theorem dX_weight_72 : decode bX_weight 72 = .ok (.dadd, 1) := by decide +kernel
theorem dX_weight_73 : decode bX_weight 73 = .ok (.dstore_n 2, 1) := by decide +kernel
theorem dX_weight_74 : decode bX_weight 74 = .ok (.iinc 6 1, 3) := by decide +kernel
theorem dX_weight_77 : decode bX_weight 77 = .ok (.goto (-61), 3) := by decide +kernel
theorem dX_weight_80 : decode bX_weight 80 = .ok (.dload_n 2, 1) := by decide +kernel
theorem dX_weight_81 : decode bX_weight 81 = .ok (.dreturn, 1) := by decide +kernel
theorem dX_areOppositeInfinities_0 : decode bX_areOppositeInfinities 0 = .ok (.dload_n 0, 1) := by decide +kernel
theorem dX_areOppositeInfinities_1 : decode bX_areOppositeInfinities 1 = .ok (.ldc2_w 171, 3) := by decide +kernel
theorem dX_areOppositeInfinities_4 : decode bX_areOppositeInfinities 4 = .ok (.dcmp .g, 1) := by decide +kernel
theorem dX_areOppositeInfinities_5 : decode bX_areOppositeInfinities 5 = .ok (.ifCond .ge 15, 3) := by decide +kernel
theorem dX_areOppositeInfinities_8 : decode bX_areOppositeInfinities 8 = .ok (.dload_n 2, 1) := by decide +kernel
theorem dX_areOppositeInfinities_9 : decode bX_areOppositeInfinities 9 = .ok (.ldc2_w 173, 3) := by decide +kernel
theorem dX_areOppositeInfinities_12 : decode bX_areOppositeInfinities 12 = .ok (.dcmp .l, 1) := by decide +kernel
theorem dX_areOppositeInfinities_13 : decode bX_areOppositeInfinities 13 = .ok (.ifCond .le 7, 3) := by decide +kernel
theorem dX_areOppositeInfinities_16 : decode bX_areOppositeInfinities 16 = .ok (.iconst 1, 1) := by decide +kernel
theorem dX_areOppositeInfinities_17 : decode bX_areOppositeInfinities 17 = .ok (.goto 4, 3) := by decide +kernel
theorem dX_areOppositeInfinities_20 : decode bX_areOppositeInfinities 20 = .ok (.iconst 0, 1) := by decide +kernel
theorem dX_areOppositeInfinities_21 : decode bX_areOppositeInfinities 21 = .ok (.ireturn, 1) := by decide +kernel
theorem dX_ordinal_0 : decode bX_ordinal 0 = .ok (.aload_n 0, 1) := by decide +kernel
theorem dX_ordinal_1 : decode bX_ordinal 1 = .ok (.iload_n 1, 1) := by decide +kernel
theorem dX_ordinal_2 : decode bX_ordinal 2 = .ok (.invokevirtual 130, 3) := by decide +kernel
theorem dX_ordinal_5 : decode bX_ordinal 5 = .ok (.ifCond .eq 15, 3) := by decide +kernel
theorem dX_ordinal_8 : decode bX_ordinal 8 = .ok (.aload_n 0, 1) := by decide +kernel
theorem dX_ordinal_9 : decode bX_ordinal 9 = .ok (.getfield 17, 3) := by decide +kernel
theorem dX_ordinal_12 : decode bX_ordinal 12 = .ok (.iload_n 1, 1) := by decide +kernel
theorem dX_ordinal_13 : decode bX_ordinal 13 = .ok (.aaload, 1) := by decide +kernel
theorem dX_ordinal_14 : decode bX_ordinal 14 = .ok (.getfield 104, 3) := by decide +kernel
theorem dX_ordinal_17 : decode bX_ordinal 17 = .ok (.goto 4, 3) := by decide +kernel
theorem dX_ordinal_20 : decode bX_ordinal 20 = .ok (.dconst 0, 1) := by decide +kernel
theorem dX_ordinal_21 : decode bX_ordinal 21 = .ok (.dreturn, 1) := by decide +kernel
theorem dX_fault_0 : decode bX_fault 0 = .ok (.iload_n 2, 1) := by decide +kernel
theorem dX_fault_1 : decode bX_fault 1 = .ok (.tableswitch 54 0 2 #[27, 36, 45], 27) := by decide +kernel
theorem dX_fault_28 : decode bX_fault 28 = .ok (.aload_n 0, 1) := by decide +kernel
theorem dX_fault_29 : decode bX_fault 29 = .ok (.getfield 33, 3) := by decide +kernel
theorem dX_fault_32 : decode bX_fault 32 = .ok (.iload_n 1, 1) := by decide +kernel
theorem dX_fault_33 : decode bX_fault 33 = .ok (.invokevirtual 155, 3) := by decide +kernel
theorem dX_fault_36 : decode bX_fault 36 = .ok (.ireturn, 1) := by decide +kernel
theorem dX_fault_37 : decode bX_fault 37 = .ok (.aload_n 0, 1) := by decide +kernel
theorem dX_fault_38 : decode bX_fault 38 = .ok (.getfield 36, 3) := by decide +kernel
theorem dX_fault_41 : decode bX_fault 41 = .ok (.iload_n 1, 1) := by decide +kernel
theorem dX_fault_42 : decode bX_fault 42 = .ok (.invokevirtual 155, 3) := by decide +kernel
theorem dX_fault_45 : decode bX_fault 45 = .ok (.ireturn, 1) := by decide +kernel
theorem dX_fault_46 : decode bX_fault 46 = .ok (.aload_n 0, 1) := by decide +kernel
theorem dX_fault_47 : decode bX_fault 47 = .ok (.getfield 39, 3) := by decide +kernel
theorem dX_fault_50 : decode bX_fault 50 = .ok (.iload_n 1, 1) := by decide +kernel
theorem dX_fault_51 : decode bX_fault 51 = .ok (.invokevirtual 155, 3) := by decide +kernel
theorem dX_fault_54 : decode bX_fault 54 = .ok (.ireturn, 1) := by decide +kernel
theorem dX_fault_55 : decode bX_fault 55 = .ok (.iconst (-1), 1) := by decide +kernel
theorem dX_fault_56 : decode bX_fault 56 = .ok (.ireturn, 1) := by decide +kernel
theorem dH_last_0 : decode bH_last 0 = .ok (.iload_n 1, 1) := by decide +kernel
theorem dH_last_1 : decode bH_last 1 = .ok (.ifCond .lt 19, 3) := by decide +kernel
theorem dH_last_4 : decode bH_last 4 = .ok (.iload_n 1, 1) := by decide +kernel
theorem dH_last_5 : decode bH_last 5 = .ok (.aload_n 0, 1) := by decide +kernel
theorem dH_last_6 : decode bH_last 6 = .ok (.getfield 15, 3) := by decide +kernel
theorem dH_last_9 : decode bH_last 9 = .ok (.if_icmp .ge 11, 3) := by decide +kernel
theorem dH_last_12 : decode bH_last 12 = .ok (.iload_n 1, 1) := by decide +kernel
theorem dH_last_13 : decode bH_last 13 = .ok (.aload_n 0, 1) := by decide +kernel
theorem dH_last_14 : decode bH_last 14 = .ok (.getfield 19, 3) := by decide +kernel
theorem dH_last_17 : decode bH_last 17 = .ok (.if_icmp .lt 5, 3) := by decide +kernel
theorem dH_last_20 : decode bH_last 20 = .ok (.iconst (-1), 1) := by decide +kernel
theorem dH_last_21 : decode bH_last 21 = .ok (.ireturn, 1) := by decide +kernel
theorem dH_last_22 : decode bH_last 22 = .ok (.aload_n 0, 1) := by decide +kernel
theorem dH_last_23 : decode bH_last 23 = .ok (.getfield 9, 3) := by decide +kernel
theorem dH_last_26 : decode bH_last 26 = .ok (.aload_n 0, 1) := by decide +kernel
theorem dH_last_27 : decode bH_last 27 = .ok (.getfield 19, 3) := by decide +kernel
theorem dH_last_30 : decode bH_last 30 = .ok (.iconst 1, 1) := by decide +kernel
theorem dH_last_31 : decode bH_last 31 = .ok (.isub, 1) := by decide +kernel
theorem dH_last_32 : decode bH_last 32 = .ok (.iload_n 1, 1) := by decide +kernel
theorem dH_last_33 : decode bH_last 33 = .ok (.isub, 1) := by decide +kernel
theorem dH_last_34 : decode bH_last 34 = .ok (.bipush 15, 2) := by decide +kernel
theorem dH_last_36 : decode bH_last 36 = .ok (.iand, 1) := by decide +kernel
theorem dH_last_37 : decode bH_last 37 = .ok (.iaload, 1) := by decide +kernel
theorem dH_last_38 : decode bH_last 38 = .ok (.ireturn, 1) := by decide +kernel
theorem dX_event_0 : decode bX_event 0 = .ok (.aload_n 0, 1) := by decide +kernel
theorem dX_event_1 : decode bX_event 1 = .ok (.getfield 29, 3) := by decide +kernel
theorem dX_event_4 : decode bX_event 4 = .ok (.iload_n 1, 1) := by decide +kernel
theorem dX_event_5 : decode bX_event 5 = .ok (.invokevirtual 155, 3) := by decide +kernel
theorem dX_event_8 : decode bX_event 8 = .ok (.ireturn, 1) := by decide +kernel
theorem dX_count_0 : decode bX_count 0 = .ok (.iload_n 1, 1) := by decide +kernel
theorem dX_count_1 : decode bX_count 1 = .ok (.tableswitch 66 0 4 #[35, 40, 45, 53, 61], 35) := by decide +kernel
theorem dX_count_36 : decode bX_count 36 = .ok (.aload_n 0, 1) := by decide +kernel
theorem dX_count_37 : decode bX_count 37 = .ok (.invokevirtual 122, 3) := by decide +kernel
theorem dX_count_40 : decode bX_count 40 = .ok (.ireturn, 1) := by decide +kernel
theorem dX_count_41 : decode bX_count 41 = .ok (.aload_n 0, 1) := by decide +kernel
theorem dX_count_42 : decode bX_count 42 = .ok (.getfield 92, 3) := by decide +kernel
theorem dX_count_45 : decode bX_count 45 = .ok (.ireturn, 1) := by decide +kernel
theorem dX_count_46 : decode bX_count 46 = .ok (.aload_n 0, 1) := by decide +kernel
theorem dX_count_47 : decode bX_count 47 = .ok (.getfield 36, 3) := by decide +kernel
theorem dX_count_50 : decode bX_count 50 = .ok (.getfield 158, 3) := by decide +kernel
theorem dX_count_53 : decode bX_count 53 = .ok (.ireturn, 1) := by decide +kernel
theorem dX_count_54 : decode bX_count 54 = .ok (.aload_n 0, 1) := by decide +kernel
theorem dX_count_55 : decode bX_count 55 = .ok (.getfield 29, 3) := by decide +kernel
theorem dX_count_58 : decode bX_count 58 = .ok (.getfield 158, 3) := by decide +kernel
theorem dX_count_61 : decode bX_count 61 = .ok (.ireturn, 1) := by decide +kernel
theorem dX_count_62 : decode bX_count 62 = .ok (.aload_n 0, 1) := by decide +kernel
theorem dX_count_63 : decode bX_count 63 = .ok (.invokevirtual 161, 3) := by decide +kernel
theorem dX_count_66 : decode bX_count 66 = .ok (.ireturn, 1) := by decide +kernel
theorem dX_count_67 : decode bX_count 67 = .ok (.iconst (-1), 1) := by decide +kernel
theorem dX_count_68 : decode bX_count 68 = .ok (.ireturn, 1) := by decide +kernel
theorem dX_shutOutExtensions_0 : decode bX_shutOutExtensions 0 = .ok (.iconst 0, 1) := by decide +kernel
theorem dX_shutOutExtensions_1 : decode bX_shutOutExtensions 1 = .ok (.istore_n 1, 1) := by decide +kernel
theorem dX_shutOutExtensions_2 : decode bX_shutOutExtensions 2 = .ok (.aload_n 0, 1) := by decide +kernel
theorem dX_shutOutExtensions_3 : decode bX_shutOutExtensions 3 = .ok (.getfield 17, 3) := by decide +kernel
theorem dX_shutOutExtensions_6 : decode bX_shutOutExtensions 6 = .ok (.astore_n 2, 1) := by decide +kernel
theorem dX_shutOutExtensions_7 : decode bX_shutOutExtensions 7 = .ok (.aload_n 2, 1) := by decide +kernel
theorem dX_shutOutExtensions_8 : decode bX_shutOutExtensions 8 = .ok (.arraylength, 1) := by decide +kernel
theorem dX_shutOutExtensions_9 : decode bX_shutOutExtensions 9 = .ok (.istore_n 3, 1) := by decide +kernel
theorem dX_shutOutExtensions_10 : decode bX_shutOutExtensions 10 = .ok (.iconst 0, 1) := by decide +kernel
theorem dX_shutOutExtensions_11 : decode bX_shutOutExtensions 11 = .ok (.istore 4, 2) := by decide +kernel
theorem dX_shutOutExtensions_13 : decode bX_shutOutExtensions 13 = .ok (.iload 4, 2) := by decide +kernel
theorem dX_shutOutExtensions_15 : decode bX_shutOutExtensions 15 = .ok (.iload_n 3, 1) := by decide +kernel
theorem dX_shutOutExtensions_16 : decode bX_shutOutExtensions 16 = .ok (.if_icmp .ge 26, 3) := by decide +kernel
theorem dX_shutOutExtensions_19 : decode bX_shutOutExtensions 19 = .ok (.aload_n 2, 1) := by decide +kernel
theorem dX_shutOutExtensions_20 : decode bX_shutOutExtensions 20 = .ok (.iload 4, 2) := by decide +kernel
theorem dX_shutOutExtensions_22 : decode bX_shutOutExtensions 22 = .ok (.aaload, 1) := by decide +kernel
theorem dX_shutOutExtensions_23 : decode bX_shutOutExtensions 23 = .ok (.astore 5, 2) := by decide +kernel
theorem dX_shutOutExtensions_25 : decode bX_shutOutExtensions 25 = .ok (.aload 5, 2) := by decide +kernel
theorem dX_shutOutExtensions_27 : decode bX_shutOutExtensions 27 = .ok (.invokevirtual 133, 3) := by decide +kernel
theorem dX_shutOutExtensions_30 : decode bX_shutOutExtensions 30 = .ok (.ifCond .eq 6, 3) := by decide +kernel
theorem dX_shutOutExtensions_33 : decode bX_shutOutExtensions 33 = .ok (.iinc 1 1, 3) := by decide +kernel
theorem dX_shutOutExtensions_36 : decode bX_shutOutExtensions 36 = .ok (.iinc 4 1, 3) := by decide +kernel
theorem dX_shutOutExtensions_39 : decode bX_shutOutExtensions 39 = .ok (.goto (-26), 3) := by decide +kernel
theorem dX_shutOutExtensions_42 : decode bX_shutOutExtensions 42 = .ok (.iload_n 1, 1) := by decide +kernel
theorem dX_shutOutExtensions_43 : decode bX_shutOutExtensions 43 = .ok (.ireturn, 1) := by decide +kernel
