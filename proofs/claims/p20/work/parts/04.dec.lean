theorem dX0_init_0 : decode cX0_init 0 = .ok (.aload_n 0, 1) := by decide +kernel
theorem dX0_init_1 : decode cX0_init 1 = .ok (.invokespecial 1, 3) := by decide +kernel
theorem dX0_init_4 : decode cX0_init 4 = .ok (.aload_n 0, 1) := by decide +kernel
theorem dX0_init_5 : decode cX0_init 5 = .ok (.iconst 5, 1) := by decide +kernel
theorem dX0_init_6 : decode cX0_init 6 = .ok (.newarray .boolean, 2) := by decide +kernel
theorem dX0_init_8 : decode cX0_init 8 = .ok (.putfield 9, 3) := by decide +kernel
theorem dX0_init_11 : decode cX0_init 11 = .ok (.aload_n 0, 1) := by decide +kernel
theorem dX0_init_12 : decode cX0_init 12 = .ok (.bipush 12, 2) := by decide +kernel
theorem dX0_init_14 : decode cX0_init 14 = .ok (.newarray .int, 2) := by decide +kernel
theorem dX0_init_16 : decode cX0_init 16 = .ok (.putfield 13, 3) := by decide +kernel
theorem dX0_init_19 : decode cX0_init 19 = .ok (.aload_n 0, 1) := by decide +kernel
theorem dX0_init_20 : decode cX0_init 20 = .ok (.bipush 36, 2) := by decide +kernel
theorem dX0_init_22 : decode cX0_init 22 = .ok (.newarray .int, 2) := by decide +kernel
theorem dX0_init_24 : decode cX0_init 24 = .ok (.putfield 17, 3) := by decide +kernel
theorem dX0_init_27 : decode cX0_init 27 = .ok (.aload_n 0, 1) := by decide +kernel
theorem dX0_init_28 : decode cX0_init 28 = .ok (.sipush 180, 3) := by decide +kernel
theorem dX0_init_31 : decode cX0_init 31 = .ok (.newarray .int, 2) := by decide +kernel
theorem dX0_init_33 : decode cX0_init 33 = .ok (.putfield 20, 3) := by decide +kernel
theorem dX0_init_36 : decode cX0_init 36 = .ok (.aload_n 0, 1) := by decide +kernel
theorem dX0_init_37 : decode cX0_init 37 = .ok (.sipush 180, 3) := by decide +kernel
theorem dX0_init_40 : decode cX0_init 40 = .ok (.newarray .int, 2) := by decide +kernel
theorem dX0_init_42 : decode cX0_init 42 = .ok (.putfield 23, 3) := by decide +kernel
theorem dX0_init_45 : decode cX0_init 45 = .ok (.aload_n 0, 1) := by decide +kernel
theorem dX0_init_46 : decode cX0_init 46 = .ok (.sipush 180, 3) := by decide +kernel
theorem dX0_init_49 : decode cX0_init 49 = .ok (.newarray .int, 2) := by decide +kernel
theorem dX0_init_51 : decode cX0_init 51 = .ok (.putfield 26, 3) := by decide +kernel
theorem dX0_init_54 : decode cX0_init 54 = .ok (.aload_n 0, 1) := by decide +kernel
theorem dX0_init_55 : decode cX0_init 55 = .ok (.sipush 180, 3) := by decide +kernel
theorem dX0_init_58 : decode cX0_init 58 = .ok (.newarray .boolean, 2) := by decide +kernel
theorem dX0_init_60 : decode cX0_init 60 = .ok (.putfield 29, 3) := by decide +kernel
theorem dX0_init_63 : decode cX0_init 63 = .ok (.aload_n 0, 1) := by decide +kernel
theorem dX0_init_64 : decode cX0_init 64 = .ok (.bipush 12, 2) := by decide +kernel
theorem dX0_init_66 : decode cX0_init 66 = .ok (.newarray .int, 2) := by decide +kernel
theorem dX0_init_68 : decode cX0_init 68 = .ok (.putfield 32, 3) := by decide +kernel
theorem dX0_init_71 : decode cX0_init 71 = .ok (.aload_n 0, 1) := by decide +kernel
theorem dX0_init_72 : decode cX0_init 72 = .ok (.bipush 12, 2) := by decide +kernel
theorem dX0_init_74 : decode cX0_init 74 = .ok (.newarray .int, 2) := by decide +kernel
theorem dX0_init_76 : decode cX0_init 76 = .ok (.putfield 35, 3) := by decide +kernel
theorem dX0_init_79 : decode cX0_init 79 = .ok (.aload_n 0, 1) := by decide +kernel
theorem dX0_init_80 : decode cX0_init 80 = .ok (.bipush 12, 2) := by decide +kernel
theorem dX0_init_82 : decode cX0_init 82 = .ok (.newarray .int, 2) := by decide +kernel
theorem dX0_init_84 : decode cX0_init 84 = .ok (.putfield 38, 3) := by decide +kernel
theorem dX0_init_87 : decode cX0_init 87 = .ok (.aload_n 0, 1) := by decide +kernel
theorem dX0_init_88 : decode cX0_init 88 = .ok (.bipush 12, 2) := by decide +kernel
theorem dX0_init_90 : decode cX0_init 90 = .ok (.newarray .int, 2) := by decide +kernel
theorem dX0_init_92 : decode cX0_init 92 = .ok (.putfield 41, 3) := by decide +kernel
theorem dX0_init_95 : decode cX0_init 95 = .ok (.aload_n 0, 1) := by decide +kernel
theorem dX0_init_96 : decode cX0_init 96 = .ok (.bipush 12, 2) := by decide +kernel
theorem dX0_init_98 : decode cX0_init 98 = .ok (.newarray .int, 2) := by decide +kernel
theorem dX0_init_100 : decode cX0_init 100 = .ok (.putfield 44, 3) := by decide +kernel
theorem dX0_init_103 : decode cX0_init 103 = .ok (.aload_n 0, 1) := by decide +kernel
theorem dX0_init_104 : decode cX0_init 104 = .ok (.bipush 12, 2) := by decide +kernel
theorem dX0_init_106 : decode cX0_init 106 = .ok (.newarray .int, 2) := by decide +kernel
theorem dX0_init_108 : decode cX0_init 108 = .ok (.putfield 47, 3) := by decide +kernel
theorem dX0_init_111 : decode cX0_init 111 = .ok (.iconst 0, 1) := by decide +kernel
theorem dX0_init_112 : decode cX0_init 112 = .ok (.istore_n 1, 1) := by decide +kernel
theorem dX0_init_113 : decode cX0_init 113 = .ok (.iload_n 1, 1) := by decide +kernel
theorem dX0_init_114 : decode cX0_init 114 = .ok (.iconst 5, 1) := by decide +kernel
theorem dX0_init_115 : decode cX0_init 115 = .ok (.if_icmp .ge 16, 3) := by decide +kernel
theorem dX0_init_118 : decode cX0_init 118 = .ok (.aload_n 0, 1) := by decide +kernel
theorem dX0_init_119 : decode cX0_init 119 = .ok (.getfield 9, 3) := by decide +kernel
theorem dX0_init_122 : decode cX0_init 122 = .ok (.iload_n 1, 1) := by decide +kernel
theorem dX0_init_123 : decode cX0_init 123 = .ok (.iconst 1, 1) := by decide +kernel
theorem dX0_init_124 : decode cX0_init 124 = .ok (.bastore, 1) := by decide +kernel
theorem dX0_init_125 : decode cX0_init 125 = .ok (.iinc 1 1, 3) := by decide +kernel
theorem dX0_init_128 : decode cX0_init 128 = .ok (.goto (-15), 3) := by decide +kernel
theorem dX0_init_131 : decode cX0_init 131 = .ok (.return_, 1) := by decide +kernel
theorem dX0_take_0 : decode cX0_take 0 = .ok (.iload_n 1, 1) := by decide +kernel
theorem dX0_take_1 : decode cX0_take 1 = .ok (.invokestatic 50, 3) := by decide +kernel
theorem dX0_take_4 : decode cX0_take 4 = .ok (.aload_n 0, 1) := by decide +kernel
theorem dX0_take_5 : decode cX0_take 5 = .ok (.getfield 9, 3) := by decide +kernel
theorem dX0_take_8 : decode cX0_take 8 = .ok (.iload_n 1, 1) := by decide +kernel
theorem dX0_take_9 : decode cX0_take 9 = .ok (.baload, 1) := by decide +kernel
theorem dX0_take_10 : decode cX0_take 10 = .ok (.istore_n 3, 1) := by decide +kernel
theorem dX0_take_11 : decode cX0_take 11 = .ok (.aload_n 0, 1) := by decide +kernel
theorem dX0_take_12 : decode cX0_take 12 = .ok (.getfield 9, 3) := by decide +kernel
theorem dX0_take_15 : decode cX0_take 15 = .ok (.iload_n 1, 1) := by decide +kernel
theorem dX0_take_16 : decode cX0_take 16 = .ok (.iload_n 2, 1) := by decide +kernel
theorem dX0_take_17 : decode cX0_take 17 = .ok (.bastore, 1) := by decide +kernel
theorem dX0_take_18 : decode cX0_take 18 = .ok (.aload_n 0, 1) := by decide +kernel
theorem dX0_take_19 : decode cX0_take 19 = .ok (.invokevirtual 54, 3) := by decide +kernel
theorem dX0_take_22 : decode cX0_take 22 = .ok (.iload_n 3, 1) := by decide +kernel
theorem dX0_take_23 : decode cX0_take 23 = .ok (.ireturn, 1) := by decide +kernel
theorem dX0_lemma_0 : decode cX0_lemma 0 = .ok (.aload_n 0, 1) := by decide +kernel
theorem dX0_lemma_1 : decode cX0_lemma 1 = .ok (.getfield 57, 3) := by decide +kernel
theorem dX0_lemma_4 : decode cX0_lemma 4 = .ok (.bipush 12, 2) := by decide +kernel
theorem dX0_lemma_6 : decode cX0_lemma 6 = .ok (.if_icmp .lt 13, 3) := by decide +kernel
theorem dX0_lemma_9 : decode cX0_lemma 9 = .ok (.new 61, 3) := by decide +kernel
theorem dX0_lemma_12 : decode cX0_lemma 12 = .ok (.dup, 1) := by decide +kernel
theorem dX0_lemma_13 : decode cX0_lemma 13 = .ok (.ldc 63, 2) := by decide +kernel
theorem dX0_lemma_15 : decode cX0_lemma 15 = .ok (.invokespecial 65, 3) := by decide +kernel
theorem dX0_lemma_18 : decode cX0_lemma 18 = .ok (.athrow, 1) := by decide +kernel
theorem dX0_lemma_19 : decode cX0_lemma 19 = .ok (.aload_n 0, 1) := by decide +kernel
theorem dX0_lemma_20 : decode cX0_lemma 20 = .ok (.dup, 1) := by decide +kernel
theorem dX0_lemma_21 : decode cX0_lemma 21 = .ok (.getfield 57, 3) := by decide +kernel
theorem dX0_lemma_24 : decode cX0_lemma 24 = .ok (.iconst 1, 1) := by decide +kernel
theorem dX0_lemma_25 : decode cX0_lemma 25 = .ok (.iadd, 1) := by decide +kernel
theorem dX0_lemma_26 : decode cX0_lemma 26 = .ok (.putfield 57, 3) := by decide +kernel
theorem dX0_lemma_29 : decode cX0_lemma 29 = .ok (.aload_n 0, 1) := by decide +kernel
theorem dX0_lemma_30 : decode cX0_lemma 30 = .ok (.invokevirtual 54, 3) := by decide +kernel
theorem dX0_lemma_33 : decode cX0_lemma 33 = .ok (.aload_n 0, 1) := by decide +kernel
theorem dX0_lemma_34 : decode cX0_lemma 34 = .ok (.getfield 57, 3) := by decide +kernel
theorem dX0_lemma_37 : decode cX0_lemma 37 = .ok (.iconst 1, 1) := by decide +kernel
theorem dX0_lemma_38 : decode cX0_lemma 38 = .ok (.isub, 1) := by decide +kernel
theorem dX0_lemma_39 : decode cX0_lemma 39 = .ok (.ireturn, 1) := by decide +kernel
theorem dX0_proof_0 : decode cX0_proof 0 = .ok (.aload_n 0, 1) := by decide +kernel
theorem dX0_proof_1 : decode cX0_proof 1 = .ok (.iload_n 1, 1) := by decide +kernel
theorem dX0_proof_2 : decode cX0_proof 2 = .ok (.invokevirtual 68, 3) := by decide +kernel
theorem dX0_proof_5 : decode cX0_proof 5 = .ok (.aload_n 0, 1) := by decide +kernel
theorem dX0_proof_6 : decode cX0_proof 6 = .ok (.getfield 13, 3) := by decide +kernel
theorem dX0_proof_9 : decode cX0_proof 9 = .ok (.iload_n 1, 1) := by decide +kernel
theorem dX0_proof_10 : decode cX0_proof 10 = .ok (.iaload, 1) := by decide +kernel
theorem dX0_proof_11 : decode cX0_proof 11 = .ok (.istore_n 2, 1) := by decide +kernel
theorem dX0_proof_12 : decode cX0_proof 12 = .ok (.iload_n 2, 1) := by decide +kernel
theorem dX0_proof_13 : decode cX0_proof 13 = .ok (.iconst 3, 1) := by decide +kernel
theorem dX0_proof_14 : decode cX0_proof 14 = .ok (.if_icmp .lt 13, 3) := by decide +kernel
theorem dX0_proof_17 : decode cX0_proof 17 = .ok (.new 61, 3) := by decide +kernel
theorem dX0_proof_20 : decode cX0_proof 20 = .ok (.dup, 1) := by decide +kernel
theorem dX0_proof_21 : decode cX0_proof 21 = .ok (.ldc 71, 2) := by decide +kernel
theorem dX0_proof_23 : decode cX0_proof 23 = .ok (.invokespecial 65, 3) := by decide +kernel
theorem dX0_proof_26 : decode cX0_proof 26 = .ok (.athrow, 1) := by decide +kernel
theorem dX0_proof_27 : decode cX0_proof 27 = .ok (.aload_n 0, 1) := by decide +kernel
theorem dX0_proof_28 : decode cX0_proof 28 = .ok (.getfield 17, 3) := by decide +kernel
theorem dX0_proof_31 : decode cX0_proof 31 = .ok (.iload_n 1, 1) := by decide +kernel
theorem dX0_proof_32 : decode cX0_proof 32 = .ok (.iload_n 2, 1) := by decide +kernel
theorem dX0_proof_33 : decode cX0_proof 33 = .ok (.invokestatic 73, 3) := by decide +kernel
theorem dX0_proof_36 : decode cX0_proof 36 = .ok (.iconst 0, 1) := by decide +kernel
theorem dX0_proof_37 : decode cX0_proof 37 = .ok (.iastore, 1) := by decide +kernel
theorem dX0_proof_38 : decode cX0_proof 38 = .ok (.aload_n 0, 1) := by decide +kernel
theorem dX0_proof_39 : decode cX0_proof 39 = .ok (.getfield 13, 3) := by decide +kernel
theorem dX0_proof_42 : decode cX0_proof 42 = .ok (.iload_n 1, 1) := by decide +kernel
theorem dX0_proof_43 : decode cX0_proof 43 = .ok (.iload_n 2, 1) := by decide +kernel
theorem dX0_proof_44 : decode cX0_proof 44 = .ok (.iconst 1, 1) := by decide +kernel
theorem dX0_proof_45 : decode cX0_proof 45 = .ok (.iadd, 1) := by decide +kernel
theorem dX0_proof_46 : decode cX0_proof 46 = .ok (.iastore, 1) := by decide +kernel
theorem dX0_proof_47 : decode cX0_proof 47 = .ok (.aload_n 0, 1) := by decide +kernel
theorem dX0_proof_48 : decode cX0_proof 48 = .ok (.invokevirtual 54, 3) := by decide +kernel
theorem dX0_proof_51 : decode cX0_proof 51 = .ok (.iload_n 2, 1) := by decide +kernel
theorem dX0_proof_52 : decode cX0_proof 52 = .ok (.ireturn, 1) := by decide +kernel
theorem dX0_cite_0 : decode cX0_cite 0 = .ok (.aload_n 0, 1) := by decide +kernel
theorem dX0_cite_1 : decode cX0_cite 1 = .ok (.iload_n 1, 1) := by decide +kernel
theorem dX0_cite_2 : decode cX0_cite 2 = .ok (.iload_n 2, 1) := by decide +kernel
theorem dX0_cite_3 : decode cX0_cite 3 = .ok (.invokevirtual 77, 3) := by decide +kernel
theorem dX0_cite_6 : decode cX0_cite 6 = .ok (.aload_n 0, 1) := by decide +kernel
theorem dX0_cite_7 : decode cX0_cite 7 = .ok (.iload_n 3, 1) := by decide +kernel
theorem dX0_cite_8 : decode cX0_cite 8 = .ok (.iload 4, 2) := by decide +kernel
theorem dX0_cite_10 : decode cX0_cite 10 = .ok (.invokevirtual 81, 3) := by decide +kernel
theorem dX0_cite_13 : decode cX0_cite 13 = .ok (.iload_n 1, 1) := by decide +kernel
theorem dX0_cite_14 : decode cX0_cite 14 = .ok (.iload_n 2, 1) := by decide +kernel
theorem dX0_cite_15 : decode cX0_cite 15 = .ok (.invokestatic 73, 3) := by decide +kernel
theorem dX0_cite_18 : decode cX0_cite 18 = .ok (.istore 5, 2) := by decide +kernel
theorem dX0_cite_20 : decode cX0_cite 20 = .ok (.aload_n 0, 1) := by decide +kernel
theorem dX0_cite_21 : decode cX0_cite 21 = .ok (.getfield 17, 3) := by decide +kernel
theorem dX0_cite_24 : decode cX0_cite 24 = .ok (.iload 5, 2) := by decide +kernel
theorem dX0_cite_26 : decode cX0_cite 26 = .ok (.iaload, 1) := by decide +kernel
theorem dX0_cite_27 : decode cX0_cite 27 = .ok (.iconst 5, 1) := by decide +kernel
theorem dX0_cite_28 : decode cX0_cite 28 = .ok (.if_icmp .lt 13, 3) := by decide +kernel
theorem dX0_cite_31 : decode cX0_cite 31 = .ok (.new 61, 3) := by decide +kernel
theorem dX0_cite_34 : decode cX0_cite 34 = .ok (.dup, 1) := by decide +kernel
theorem dX0_cite_35 : decode cX0_cite 35 = .ok (.ldc 84, 2) := by decide +kernel
theorem dX0_cite_37 : decode cX0_cite 37 = .ok (.invokespecial 65, 3) := by decide +kernel
theorem dX0_cite_40 : decode cX0_cite 40 = .ok (.athrow, 1) := by decide +kernel
theorem dX0_cite_41 : decode cX0_cite 41 = .ok (.aload_n 0, 1) := by decide +kernel
theorem dX0_cite_42 : decode cX0_cite 42 = .ok (.iload 5, 2) := by decide +kernel
theorem dX0_cite_44 : decode cX0_cite 44 = .ok (.invokevirtual 86, 3) := by decide +kernel
theorem dX0_cite_47 : decode cX0_cite 47 = .ok (.istore 6, 2) := by decide +kernel
theorem dX0_cite_49 : decode cX0_cite 49 = .ok (.aload_n 0, 1) := by decide +kernel
theorem dX0_cite_50 : decode cX0_cite 50 = .ok (.getfield 20, 3) := by decide +kernel
theorem dX0_cite_53 : decode cX0_cite 53 = .ok (.iload 6, 2) := by decide +kernel
theorem dX0_cite_55 : decode cX0_cite 55 = .ok (.iload_n 3, 1) := by decide +kernel
theorem dX0_cite_56 : decode cX0_cite 56 = .ok (.iastore, 1) := by decide +kernel
theorem dX0_cite_57 : decode cX0_cite 57 = .ok (.aload_n 0, 1) := by decide +kernel
theorem dX0_cite_58 : decode cX0_cite 58 = .ok (.getfield 23, 3) := by decide +kernel
theorem dX0_cite_61 : decode cX0_cite 61 = .ok (.iload 6, 2) := by decide +kernel
theorem dX0_cite_63 : decode cX0_cite 63 = .ok (.iload 4, 2) := by decide +kernel
theorem dX0_cite_65 : decode cX0_cite 65 = .ok (.iastore, 1) := by decide +kernel
theorem dX0_cite_66 : decode cX0_cite 66 = .ok (.aload_n 0, 1) := by decide +kernel
theorem dX0_cite_67 : decode cX0_cite 67 = .ok (.getfield 26, 3) := by decide +kernel
theorem dX0_cite_70 : decode cX0_cite 70 = .ok (.iload 6, 2) := by decide +kernel
theorem dX0_cite_72 : decode cX0_cite 72 = .ok (.iload_n 3, 1) := by decide +kernel
theorem dX0_cite_73 : decode cX0_cite 73 = .ok (.iconst 2, 1) := by decide +kernel
theorem dX0_cite_74 : decode cX0_cite 74 = .ok (.if_icmp .ne 8, 3) := by decide +kernel
theorem dX0_cite_77 : decode cX0_cite 77 = .ok (.iload 4, 2) := by decide +kernel
theorem dX0_cite_79 : decode cX0_cite 79 = .ok (.goto 4, 3) := by decide +kernel
theorem dX0_cite_82 : decode cX0_cite 82 = .ok (.iconst 0, 1) := by decide +kernel
theorem dX0_cite_83 : decode cX0_cite 83 = .ok (.iastore, 1) := by decide +kernel
theorem dX0_cite_84 : decode cX0_cite 84 = .ok (.aload_n 0, 1) := by decide +kernel
theorem dX0_cite_85 : decode cX0_cite 85 = .ok (.getfield 29, 3) := by decide +kernel
theorem dX0_cite_88 : decode cX0_cite 88 = .ok (.iload 6, 2) := by decide +kernel
theorem dX0_cite_90 : decode cX0_cite 90 = .ok (.iconst 0, 1) := by decide +kernel
theorem dX0_cite_91 : decode cX0_cite 91 = .ok (.bastore, 1) := by decide +kernel
theorem dX0_cite_92 : decode cX0_cite 92 = .ok (.aload_n 0, 1) := by decide +kernel
theorem dX0_cite_93 : decode cX0_cite 93 = .ok (.getfield 17, 3) := by decide +kernel
theorem dX0_cite_96 : decode cX0_cite 96 = .ok (.iload 5, 2) := by decide +kernel
theorem dX0_cite_98 : decode cX0_cite 98 = .ok (.dup2, 1) := by decide +kernel
theorem dX0_cite_99 : decode cX0_cite 99 = .ok (.iaload, 1) := by decide +kernel
theorem dX0_cite_100 : decode cX0_cite 100 = .ok (.iconst 1, 1) := by decide +kernel
theorem dX0_cite_101 : decode cX0_cite 101 = .ok (.iadd, 1) := by decide +kernel
theorem dX0_cite_102 : decode cX0_cite 102 = .ok (.iastore, 1) := by decide +kernel
theorem dX0_cite_103 : decode cX0_cite 103 = .ok (.aload_n 0, 1) := by decide +kernel
theorem dX0_cite_104 : decode cX0_cite 104 = .ok (.invokevirtual 54, 3) := by decide +kernel
theorem dX0_cite_107 : decode cX0_cite 107 = .ok (.aload_n 0, 1) := by decide +kernel
theorem dX0_cite_108 : decode cX0_cite 108 = .ok (.getfield 17, 3) := by decide +kernel
theorem dX0_cite_111 : decode cX0_cite 111 = .ok (.iload 5, 2) := by decide +kernel
theorem dX0_cite_113 : decode cX0_cite 113 = .ok (.iaload, 1) := by decide +kernel
theorem dX0_cite_114 : decode cX0_cite 114 = .ok (.ireturn, 1) := by decide +kernel
theorem dX0_patch_0 : decode cX0_patch 0 = .ok (.aload_n 0, 1) := by decide +kernel
theorem dX0_patch_1 : decode cX0_patch 1 = .ok (.iload_n 1, 1) := by decide +kernel
theorem dX0_patch_2 : decode cX0_patch 2 = .ok (.iload_n 2, 1) := by decide +kernel
theorem dX0_patch_3 : decode cX0_patch 3 = .ok (.iload_n 3, 1) := by decide +kernel
theorem dX0_patch_4 : decode cX0_patch 4 = .ok (.invokevirtual 90, 3) := by decide +kernel
theorem dX0_patch_7 : decode cX0_patch 7 = .ok (.iload 4, 2) := by decide +kernel
theorem dX0_patch_9 : decode cX0_patch 9 = .ok (.iconst 1, 1) := by decide +kernel
theorem dX0_patch_10 : decode cX0_patch 10 = .ok (.if_icmp .lt 10, 3) := by decide +kernel
theorem dX0_patch_13 : decode cX0_patch 13 = .ok (.iload 4, 2) := by decide +kernel
theorem dX0_patch_15 : decode cX0_patch 15 = .ok (.bipush 9, 2) := by decide +kernel
theorem dX0_patch_17 : decode cX0_patch 17 = .ok (.if_icmp .le 13, 3) := by decide +kernel
theorem dX0_patch_20 : decode cX0_patch 20 = .ok (.new 94, 3) := by decide +kernel
theorem dX0_patch_23 : decode cX0_patch 23 = .ok (.dup, 1) := by decide +kernel
theorem dX0_patch_24 : decode cX0_patch 24 = .ok (.ldc 96, 2) := by decide +kernel
theorem dX0_patch_26 : decode cX0_patch 26 = .ok (.invokespecial 98, 3) := by decide +kernel
theorem dX0_patch_29 : decode cX0_patch 29 = .ok (.athrow, 1) := by decide +kernel
theorem dX0_patch_30 : decode cX0_patch 30 = .ok (.iload_n 1, 1) := by decide +kernel
theorem dX0_patch_31 : decode cX0_patch 31 = .ok (.iload_n 2, 1) := by decide +kernel
theorem dX0_patch_32 : decode cX0_patch 32 = .ok (.iload_n 3, 1) := by decide +kernel
theorem dX0_patch_33 : decode cX0_patch 33 = .ok (.invokestatic 99, 3) := by decide +kernel
theorem dX0_patch_36 : decode cX0_patch 36 = .ok (.istore 5, 2) := by decide +kernel
theorem dX0_patch_38 : decode cX0_patch 38 = .ok (.aload_n 0, 1) := by decide +kernel
theorem dX0_patch_39 : decode cX0_patch 39 = .ok (.getfield 26, 3) := by decide +kernel
theorem dX0_patch_42 : decode cX0_patch 42 = .ok (.iload 5, 2) := by decide +kernel
theorem dX0_patch_44 : decode cX0_patch 44 = .ok (.iaload, 1) := by decide +kernel
theorem dX0_patch_45 : decode cX0_patch 45 = .ok (.ifCond .ne 13, 3) := by decide +kernel
theorem dX0_patch_48 : decode cX0_patch 48 = .ok (.new 61, 3) := by decide +kernel
theorem dX0_patch_51 : decode cX0_patch 51 = .ok (.dup, 1) := by decide +kernel
theorem dX0_patch_52 : decode cX0_patch 52 = .ok (.ldc 103, 2) := by decide +kernel
theorem dX0_patch_54 : decode cX0_patch 54 = .ok (.invokespecial 65, 3) := by decide +kernel
theorem dX0_patch_57 : decode cX0_patch 57 = .ok (.athrow, 1) := by decide +kernel
theorem dX0_patch_58 : decode cX0_patch 58 = .ok (.aload_n 0, 1) := by decide +kernel
theorem dX0_patch_59 : decode cX0_patch 59 = .ok (.getfield 26, 3) := by decide +kernel
theorem dX0_patch_62 : decode cX0_patch 62 = .ok (.iload 5, 2) := by decide +kernel
theorem dX0_patch_64 : decode cX0_patch 64 = .ok (.aload_n 0, 1) := by decide +kernel
theorem dX0_patch_65 : decode cX0_patch 65 = .ok (.getfield 26, 3) := by decide +kernel
theorem dX0_patch_68 : decode cX0_patch 68 = .ok (.iload 5, 2) := by decide +kernel
theorem dX0_patch_70 : decode cX0_patch 70 = .ok (.iaload, 1) := by decide +kernel
theorem dX0_patch_71 : decode cX0_patch 71 = .ok (.iload 4, 2) := by decide +kernel
theorem dX0_patch_73 : decode cX0_patch 73 = .ok (.isub, 1) := by decide +kernel
theorem dX0_patch_74 : decode cX0_patch 74 = .ok (.iconst 0, 1) := by decide +kernel
theorem dX0_patch_75 : decode cX0_patch 75 = .ok (.invokestatic 105, 3) := by decide +kernel
theorem dX0_patch_78 : decode cX0_patch 78 = .ok (.iastore, 1) := by decide +kernel
theorem dX0_patch_79 : decode cX0_patch 79 = .ok (.aload_n 0, 1) := by decide +kernel
theorem dX0_patch_80 : decode cX0_patch 80 = .ok (.invokevirtual 54, 3) := by decide +kernel
theorem dX0_patch_83 : decode cX0_patch 83 = .ok (.aload_n 0, 1) := by decide +kernel
theorem dX0_patch_84 : decode cX0_patch 84 = .ok (.getfield 26, 3) := by decide +kernel
theorem dX0_patch_87 : decode cX0_patch 87 = .ok (.iload 5, 2) := by decide +kernel
theorem dX0_patch_89 : decode cX0_patch 89 = .ok (.iaload, 1) := by decide +kernel
theorem dX0_patch_90 : decode cX0_patch 90 = .ok (.ireturn, 1) := by decide +kernel
theorem dX0_withdraw_0 : decode cX0_withdraw 0 = .ok (.aload_n 0, 1) := by decide +kernel
theorem dX0_withdraw_1 : decode cX0_withdraw 1 = .ok (.iload_n 1, 1) := by decide +kernel
theorem dX0_withdraw_2 : decode cX0_withdraw 2 = .ok (.iload_n 2, 1) := by decide +kernel
theorem dX0_withdraw_3 : decode cX0_withdraw 3 = .ok (.iload_n 3, 1) := by decide +kernel
theorem dX0_withdraw_4 : decode cX0_withdraw 4 = .ok (.invokevirtual 90, 3) := by decide +kernel
theorem dX0_withdraw_7 : decode cX0_withdraw 7 = .ok (.iload_n 1, 1) := by decide +kernel
theorem dX0_withdraw_8 : decode cX0_withdraw 8 = .ok (.iload_n 2, 1) := by decide +kernel
theorem dX0_withdraw_9 : decode cX0_withdraw 9 = .ok (.iload_n 3, 1) := by decide +kernel
theorem dX0_withdraw_10 : decode cX0_withdraw 10 = .ok (.invokestatic 99, 3) := by decide +kernel
theorem dX0_withdraw_13 : decode cX0_withdraw 13 = .ok (.istore 4, 2) := by decide +kernel
theorem dX0_withdraw_15 : decode cX0_withdraw 15 = .ok (.aload_n 0, 1) := by decide +kernel
theorem dX0_withdraw_16 : decode cX0_withdraw 16 = .ok (.getfield 29, 3) := by decide +kernel
theorem dX0_withdraw_19 : decode cX0_withdraw 19 = .ok (.iload 4, 2) := by decide +kernel
theorem dX0_withdraw_21 : decode cX0_withdraw 21 = .ok (.aload_n 0, 1) := by decide +kernel
theorem dX0_withdraw_22 : decode cX0_withdraw 22 = .ok (.getfield 29, 3) := by decide +kernel
theorem dX0_withdraw_25 : decode cX0_withdraw 25 = .ok (.iload 4, 2) := by decide +kernel
theorem dX0_withdraw_27 : decode cX0_withdraw 27 = .ok (.baload, 1) := by decide +kernel
theorem dX0_withdraw_28 : decode cX0_withdraw 28 = .ok (.ifCond .ne 7, 3) := by decide +kernel
theorem dX0_withdraw_31 : decode cX0_withdraw 31 = .ok (.iconst 1, 1) := by decide +kernel
theorem dX0_withdraw_32 : decode cX0_withdraw 32 = .ok (.goto 4, 3) := by decide +kernel
theorem dX0_withdraw_35 : decode cX0_withdraw 35 = .ok (.iconst 0, 1) := by decide +kernel
theorem dX0_withdraw_36 : decode cX0_withdraw 36 = .ok (.bastore, 1) := by decide +kernel
theorem dX0_withdraw_37 : decode cX0_withdraw 37 = .ok (.aload_n 0, 1) := by decide +kernel
theorem dX0_withdraw_38 : decode cX0_withdraw 38 = .ok (.invokevirtual 54, 3) := by decide +kernel
theorem dX0_withdraw_41 : decode cX0_withdraw 41 = .ok (.aload_n 0, 1) := by decide +kernel
theorem dX0_withdraw_42 : decode cX0_withdraw 42 = .ok (.getfield 29, 3) := by decide +kernel
theorem dX0_withdraw_45 : decode cX0_withdraw 45 = .ok (.iload 4, 2) := by decide +kernel
theorem dX0_withdraw_47 : decode cX0_withdraw 47 = .ok (.baload, 1) := by decide +kernel
theorem dX0_withdraw_48 : decode cX0_withdraw 48 = .ok (.ireturn, 1) := by decide +kernel
theorem dX0_strike_0 : decode cX0_strike 0 = .ok (.aload_n 0, 1) := by decide +kernel
theorem dX0_strike_1 : decode cX0_strike 1 = .ok (.iload_n 1, 1) := by decide +kernel
theorem dX0_strike_2 : decode cX0_strike 2 = .ok (.iload_n 2, 1) := by decide +kernel
theorem dX0_strike_3 : decode cX0_strike 3 = .ok (.invokevirtual 77, 3) := by decide +kernel
theorem dX0_strike_6 : decode cX0_strike 6 = .ok (.aload_n 0, 1) := by decide +kernel
theorem dX0_strike_7 : decode cX0_strike 7 = .ok (.getfield 13, 3) := by decide +kernel
theorem dX0_strike_10 : decode cX0_strike 10 = .ok (.iload_n 1, 1) := by decide +kernel
theorem dX0_strike_11 : decode cX0_strike 11 = .ok (.dup2, 1) := by decide +kernel
theorem dX0_strike_12 : decode cX0_strike 12 = .ok (.iaload, 1) := by decide +kernel
theorem dX0_strike_13 : decode cX0_strike 13 = .ok (.iconst 1, 1) := by decide +kernel
theorem dX0_strike_14 : decode cX0_strike 14 = .ok (.isub, 1) := by decide +kernel
theorem dX0_strike_15 : decode cX0_strike 15 = .ok (.iastore, 1) := by decide +kernel
theorem dX0_strike_16 : decode cX0_strike 16 = .ok (.iload_n 2, 1) := by decide +kernel
theorem dX0_strike_17 : decode cX0_strike 17 = .ok (.istore_n 3, 1) := by decide +kernel
theorem dX0_strike_18 : decode cX0_strike 18 = .ok (.iload_n 3, 1) := by decide +kernel
theorem dX0_strike_19 : decode cX0_strike 19 = .ok (.aload_n 0, 1) := by decide +kernel
theorem dX0_strike_20 : decode cX0_strike 20 = .ok (.getfield 13, 3) := by decide +kernel
theorem dX0_strike_23 : decode cX0_strike 23 = .ok (.iload_n 1, 1) := by decide +kernel
theorem dX0_strike_24 : decode cX0_strike 24 = .ok (.iaload, 1) := by decide +kernel
theorem dX0_strike_25 : decode cX0_strike 25 = .ok (.if_icmp .ge 18, 3) := by decide +kernel
theorem dX0_strike_28 : decode cX0_strike 28 = .ok (.aload_n 0, 1) := by decide +kernel
theorem dX0_strike_29 : decode cX0_strike 29 = .ok (.iload_n 1, 1) := by decide +kernel
theorem dX0_strike_30 : decode cX0_strike 30 = .ok (.iload_n 3, 1) := by decide +kernel
theorem dX0_strike_31 : decode cX0_strike 31 = .ok (.invokestatic 73, 3) := by decide +kernel
theorem dX0_strike_34 : decode cX0_strike 34 = .ok (.invokevirtual 110, 3) := by decide +kernel
theorem dX0_strike_37 : decode cX0_strike 37 = .ok (.iinc 3 1, 3) := by decide +kernel
theorem dX0_strike_40 : decode cX0_strike 40 = .ok (.goto (-22), 3) := by decide +kernel
theorem dX0_strike_43 : decode cX0_strike 43 = .ok (.aload_n 0, 1) := by decide +kernel
theorem dX0_strike_44 : decode cX0_strike 44 = .ok (.invokevirtual 54, 3) := by decide +kernel
theorem dX0_strike_47 : decode cX0_strike 47 = .ok (.aload_n 0, 1) := by decide +kernel
theorem dX0_strike_48 : decode cX0_strike 48 = .ok (.getfield 13, 3) := by decide +kernel
theorem dX0_strike_51 : decode cX0_strike 51 = .ok (.iload_n 1, 1) := by decide +kernel
theorem dX0_strike_52 : decode cX0_strike 52 = .ok (.iaload, 1) := by decide +kernel
theorem dX0_strike_53 : decode cX0_strike 53 = .ok (.ireturn, 1) := by decide +kernel
theorem dX0_told_0 : decode cX0_told 0 = .ok (.aload_n 0, 1) := by decide +kernel
theorem dX0_told_1 : decode cX0_told 1 = .ok (.iload_n 1, 1) := by decide +kernel
theorem dX0_told_2 : decode cX0_told 2 = .ok (.invokevirtual 68, 3) := by decide +kernel
theorem dX0_told_5 : decode cX0_told 5 = .ok (.iload_n 2, 1) := by decide +kernel
theorem dX0_told_6 : decode cX0_told 6 = .ok (.bipush 7, 2) := by decide +kernel
theorem dX0_told_8 : decode cX0_told 8 = .ok (.invokestatic 113, 3) := by decide +kernel
theorem dX0_told_11 : decode cX0_told 11 = .ok (.aload_n 0, 1) := by decide +kernel
theorem dX0_told_12 : decode cX0_told 12 = .ok (.iload_n 1, 1) := by decide +kernel
theorem dX0_told_13 : decode cX0_told 13 = .ok (.iload_n 2, 1) := by decide +kernel
theorem dX0_told_14 : decode cX0_told 14 = .ok (.invokevirtual 116, 3) := by decide +kernel
theorem dX0_told_17 : decode cX0_told 17 = .ok (.ireturn, 1) := by decide +kernel
theorem dX0_step_0 : decode cX0_step 0 = .ok (.aload_n 0, 1) := by decide +kernel
theorem dX0_step_1 : decode cX0_step 1 = .ok (.iload_n 1, 1) := by decide +kernel
theorem dX0_step_2 : decode cX0_step 2 = .ok (.iload_n 2, 1) := by decide +kernel
theorem dX0_step_3 : decode cX0_step 3 = .ok (.iload_n 3, 1) := by decide +kernel
theorem dX0_step_4 : decode cX0_step 4 = .ok (.invokevirtual 90, 3) := by decide +kernel
theorem dX0_step_7 : decode cX0_step 7 = .ok (.iload 4, 2) := by decide +kernel
theorem dX0_step_9 : decode cX0_step 9 = .ok (.iconst 4, 1) := by decide +kernel
theorem dX0_step_10 : decode cX0_step 10 = .ok (.invokestatic 113, 3) := by decide +kernel
theorem dX0_step_13 : decode cX0_step 13 = .ok (.aload_n 0, 1) := by decide +kernel
theorem dX0_step_14 : decode cX0_step 14 = .ok (.iload_n 1, 1) := by decide +kernel
theorem dX0_step_15 : decode cX0_step 15 = .ok (.iload_n 2, 1) := by decide +kernel
theorem dX0_step_16 : decode cX0_step 16 = .ok (.iload_n 3, 1) := by decide +kernel
theorem dX0_step_17 : decode cX0_step 17 = .ok (.invokestatic 99, 3) := by decide +kernel
theorem dX0_step_20 : decode cX0_step 20 = .ok (.iload 4, 2) := by decide +kernel
theorem dX0_step_22 : decode cX0_step 22 = .ok (.invokevirtual 119, 3) := by decide +kernel
theorem dX0_step_25 : decode cX0_step 25 = .ok (.ireturn, 1) := by decide +kernel
theorem dX0_about_0 : decode cX0_about 0 = .ok (.aload_n 0, 1) := by decide +kernel
theorem dX0_about_1 : decode cX0_about 1 = .ok (.iload_n 1, 1) := by decide +kernel
theorem dX0_about_2 : decode cX0_about 2 = .ok (.iload_n 2, 1) := by decide +kernel
theorem dX0_about_3 : decode cX0_about 3 = .ok (.invokevirtual 77, 3) := by decide +kernel
theorem dX0_about_6 : decode cX0_about 6 = .ok (.iload_n 3, 1) := by decide +kernel
theorem dX0_about_7 : decode cX0_about 7 = .ok (.iconst 4, 1) := by decide +kernel
theorem dX0_about_8 : decode cX0_about 8 = .ok (.invokestatic 113, 3) := by decide +kernel
theorem dX0_about_11 : decode cX0_about 11 = .ok (.iload_n 1, 1) := by decide +kernel
theorem dX0_about_12 : decode cX0_about 12 = .ok (.iload_n 2, 1) := by decide +kernel
theorem dX0_about_13 : decode cX0_about 13 = .ok (.invokestatic 73, 3) := by decide +kernel
theorem dX0_about_16 : decode cX0_about 16 = .ok (.istore 4, 2) := by decide +kernel
theorem dX0_about_18 : decode cX0_about 18 = .ok (.iload_n 3, 1) := by decide +kernel
theorem dX0_about_19 : decode cX0_about 19 = .ok (.tableswitch 69 0 2 #[25, 33, 54], 25) := by decide +kernel
theorem dX0_about_44 : decode cX0_about 44 = .ok (.aload_n 0, 1) := by decide +kernel
theorem dX0_about_45 : decode cX0_about 45 = .ok (.getfield 17, 3) := by decide +kernel
theorem dX0_about_48 : decode cX0_about 48 = .ok (.iload 4, 2) := by decide +kernel
theorem dX0_about_50 : decode cX0_about 50 = .ok (.iaload, 1) := by decide +kernel
theorem dX0_about_51 : decode cX0_about 51 = .ok (.ireturn, 1) := by decide +kernel
theorem dX0_about_52 : decode cX0_about 52 = .ok (.aload_n 0, 1) := by decide +kernel
theorem dX0_about_53 : decode cX0_about 53 = .ok (.iload 4, 2) := by decide +kernel
theorem dX0_about_55 : decode cX0_about 55 = .ok (.aload_n 0, 1) := by decide +kernel
theorem dX0_about_56 : decode cX0_about 56 = .ok (.getfield 32, 3) := by decide +kernel
theorem dX0_about_59 : decode cX0_about 59 = .ok (.bipush 13, 2) := by decide +kernel
theorem dX0_about_61 : decode cX0_about 61 = .ok (.invokevirtual 122, 3) := by decide +kernel
theorem dX0_about_64 : decode cX0_about 64 = .ok (.ifCond .eq 7, 3) := by decide +kernel
theorem dX0_about_67 : decode cX0_about 67 = .ok (.iconst 1, 1) := by decide +kernel
theorem dX0_about_68 : decode cX0_about 68 = .ok (.goto 4, 3) := by decide +kernel
theorem dX0_about_71 : decode cX0_about 71 = .ok (.iconst 0, 1) := by decide +kernel
theorem dX0_about_72 : decode cX0_about 72 = .ok (.ireturn, 1) := by decide +kernel
theorem dX0_about_73 : decode cX0_about 73 = .ok (.aload_n 0, 1) := by decide +kernel
theorem dX0_about_74 : decode cX0_about 74 = .ok (.iload 4, 2) := by decide +kernel
theorem dX0_about_76 : decode cX0_about 76 = .ok (.aload_n 0, 1) := by decide +kernel
theorem dX0_about_77 : decode cX0_about 77 = .ok (.getfield 35, 3) := by decide +kernel
theorem dX0_about_80 : decode cX0_about 80 = .ok (.iconst 0, 1) := by decide +kernel
theorem dX0_about_81 : decode cX0_about 81 = .ok (.invokevirtual 126, 3) := by decide +kernel
theorem dX0_about_84 : decode cX0_about 84 = .ok (.invokestatic 130, 3) := by decide +kernel
theorem dX0_about_87 : decode cX0_about 87 = .ok (.ireturn, 1) := by decide +kernel
theorem dX0_about_88 : decode cX0_about 88 = .ok (.aload_n 0, 1) := by decide +kernel
theorem dX0_about_89 : decode cX0_about 89 = .ok (.iload 4, 2) := by decide +kernel
theorem dX0_about_91 : decode cX0_about 91 = .ok (.aload_n 0, 1) := by decide +kernel
theorem dX0_about_92 : decode cX0_about 92 = .ok (.getfield 38, 3) := by decide +kernel
theorem dX0_about_95 : decode cX0_about 95 = .ok (.iconst 1, 1) := by decide +kernel
theorem dX0_about_96 : decode cX0_about 96 = .ok (.invokevirtual 126, 3) := by decide +kernel
theorem dX0_about_99 : decode cX0_about 99 = .ok (.invokestatic 130, 3) := by decide +kernel
theorem dX0_about_102 : decode cX0_about 102 = .ok (.ireturn, 1) := by decide +kernel
theorem dX0_count_0 : decode cX0_count 0 = .ok (.iload_n 1, 1) := by decide +kernel
theorem dX0_count_1 : decode cX0_count 1 = .ok (.bipush 7, 2) := by decide +kernel
theorem dX0_count_3 : decode cX0_count 3 = .ok (.invokestatic 113, 3) := by decide +kernel
theorem dX0_count_6 : decode cX0_count 6 = .ok (.aload_n 0, 1) := by decide +kernel
theorem dX0_count_7 : decode cX0_count 7 = .ok (.iload_n 1, 1) := by decide +kernel
theorem dX0_count_8 : decode cX0_count 8 = .ok (.invokevirtual 133, 3) := by decide +kernel
theorem dX0_count_11 : decode cX0_count 11 = .ok (.ireturn, 1) := by decide +kernel
theorem dX0_best_0 : decode cX0_best 0 = .ok (.aload_n 0, 1) := by decide +kernel
theorem dX0_best_1 : decode cX0_best 1 = .ok (.iload_n 1, 1) := by decide +kernel
theorem dX0_best_2 : decode cX0_best 2 = .ok (.invokevirtual 68, 3) := by decide +kernel
theorem dX0_best_5 : decode cX0_best 5 = .ok (.iconst (-1), 1) := by decide +kernel
theorem dX0_best_6 : decode cX0_best 6 = .ok (.istore_n 2, 1) := by decide +kernel
theorem dX0_best_7 : decode cX0_best 7 = .ok (.sipush 9999, 3) := by decide +kernel
theorem dX0_best_10 : decode cX0_best 10 = .ok (.istore_n 3, 1) := by decide +kernel
theorem dX0_best_11 : decode cX0_best 11 = .ok (.iconst 0, 1) := by decide +kernel
theorem dX0_best_12 : decode cX0_best 12 = .ok (.istore 4, 2) := by decide +kernel
theorem dX0_best_14 : decode cX0_best 14 = .ok (.iload 4, 2) := by decide +kernel
theorem dX0_best_16 : decode cX0_best 16 = .ok (.aload_n 0, 1) := by decide +kernel
theorem dX0_best_17 : decode cX0_best 17 = .ok (.getfield 13, 3) := by decide +kernel
theorem dX0_best_20 : decode cX0_best 20 = .ok (.iload_n 1, 1) := by decide +kernel
theorem dX0_best_21 : decode cX0_best 21 = .ok (.iaload, 1) := by decide +kernel
theorem dX0_best_22 : decode cX0_best 22 = .ok (.if_icmp .ge 38, 3) := by decide +kernel
theorem dX0_best_25 : decode cX0_best 25 = .ok (.aload_n 0, 1) := by decide +kernel
theorem dX0_best_26 : decode cX0_best 26 = .ok (.iload_n 1, 1) := by decide +kernel
theorem dX0_best_27 : decode cX0_best 27 = .ok (.iload 4, 2) := by decide +kernel
theorem dX0_best_29 : decode cX0_best 29 = .ok (.invokestatic 73, 3) := by decide +kernel
theorem dX0_best_32 : decode cX0_best 32 = .ok (.aload_n 0, 1) := by decide +kernel
theorem dX0_best_33 : decode cX0_best 33 = .ok (.getfield 35, 3) := by decide +kernel
theorem dX0_best_36 : decode cX0_best 36 = .ok (.iconst 0, 1) := by decide +kernel
theorem dX0_best_37 : decode cX0_best 37 = .ok (.invokevirtual 126, 3) := by decide +kernel
theorem dX0_best_40 : decode cX0_best 40 = .ok (.istore 5, 2) := by decide +kernel
theorem dX0_best_42 : decode cX0_best 42 = .ok (.iload 5, 2) := by decide +kernel
theorem dX0_best_44 : decode cX0_best 44 = .ok (.iload_n 3, 1) := by decide +kernel
theorem dX0_best_45 : decode cX0_best 45 = .ok (.if_icmp .ge 9, 3) := by decide +kernel
theorem dX0_best_48 : decode cX0_best 48 = .ok (.iload 5, 2) := by decide +kernel
theorem dX0_best_50 : decode cX0_best 50 = .ok (.istore_n 3, 1) := by decide +kernel
theorem dX0_best_51 : decode cX0_best 51 = .ok (.iload 4, 2) := by decide +kernel
theorem dX0_best_53 : decode cX0_best 53 = .ok (.istore_n 2, 1) := by decide +kernel
theorem dX0_best_54 : decode cX0_best 54 = .ok (.iinc 4 1, 3) := by decide +kernel
theorem dX0_best_57 : decode cX0_best 57 = .ok (.goto (-43), 3) := by decide +kernel
theorem dX0_best_60 : decode cX0_best 60 = .ok (.iload_n 2, 1) := by decide +kernel
theorem dX0_best_61 : decode cX0_best 61 = .ok (.ireturn, 1) := by decide +kernel
theorem dX0_without_0 : decode cX0_without 0 = .ok (.aload_n 0, 1) := by decide +kernel
theorem dX0_without_1 : decode cX0_without 1 = .ok (.iload_n 1, 1) := by decide +kernel
theorem dX0_without_2 : decode cX0_without 2 = .ok (.invokevirtual 68, 3) := by decide +kernel
theorem dX0_without_5 : decode cX0_without 5 = .ok (.aload_n 0, 1) := by decide +kernel
theorem dX0_without_6 : decode cX0_without 6 = .ok (.aload_n 0, 1) := by decide +kernel
theorem dX0_without_7 : decode cX0_without 7 = .ok (.getfield 47, 3) := by decide +kernel
theorem dX0_without_10 : decode cX0_without 10 = .ok (.iload_n 1, 1) := by decide +kernel
theorem dX0_without_11 : decode cX0_without 11 = .ok (.invokevirtual 136, 3) := by decide +kernel
theorem dX0_without_14 : decode cX0_without 14 = .ok (.ireturn, 1) := by decide +kernel
theorem dX0_needs_0 : decode cX0_needs 0 = .ok (.aload_n 0, 1) := by decide +kernel
theorem dX0_needs_1 : decode cX0_needs 1 = .ok (.iload_n 1, 1) := by decide +kernel
theorem dX0_needs_2 : decode cX0_needs 2 = .ok (.invokevirtual 68, 3) := by decide +kernel
theorem dX0_needs_5 : decode cX0_needs 5 = .ok (.iload_n 2, 1) := by decide +kernel
theorem dX0_needs_6 : decode cX0_needs 6 = .ok (.invokestatic 50, 3) := by decide +kernel
theorem dX0_needs_9 : decode cX0_needs 9 = .ok (.aload_n 0, 1) := by decide +kernel
theorem dX0_needs_10 : decode cX0_needs 10 = .ok (.getfield 9, 3) := by decide +kernel
theorem dX0_needs_13 : decode cX0_needs 13 = .ok (.iload_n 2, 1) := by decide +kernel
theorem dX0_needs_14 : decode cX0_needs 14 = .ok (.baload, 1) := by decide +kernel
theorem dX0_needs_15 : decode cX0_needs 15 = .ok (.istore_n 3, 1) := by decide +kernel
theorem dX0_needs_16 : decode cX0_needs 16 = .ok (.aload_n 0, 1) := by decide +kernel
theorem dX0_needs_17 : decode cX0_needs 17 = .ok (.getfield 9, 3) := by decide +kernel
theorem dX0_needs_20 : decode cX0_needs 20 = .ok (.iload_n 2, 1) := by decide +kernel
theorem dX0_needs_21 : decode cX0_needs 21 = .ok (.iconst 0, 1) := by decide +kernel
theorem dX0_needs_22 : decode cX0_needs 22 = .ok (.bastore, 1) := by decide +kernel
theorem dX0_needs_23 : decode cX0_needs 23 = .ok (.aload_n 0, 1) := by decide +kernel
theorem dX0_needs_24 : decode cX0_needs 24 = .ok (.aload_n 0, 1) := by decide +kernel
theorem dX0_needs_25 : decode cX0_needs 25 = .ok (.getfield 47, 3) := by decide +kernel
theorem dX0_needs_28 : decode cX0_needs 28 = .ok (.iconst (-1), 1) := by decide +kernel
theorem dX0_needs_29 : decode cX0_needs 29 = .ok (.invokevirtual 136, 3) := by decide +kernel
theorem dX0_needs_32 : decode cX0_needs 32 = .ok (.pop, 1) := by decide +kernel
theorem dX0_needs_33 : decode cX0_needs 33 = .ok (.aload_n 0, 1) := by decide +kernel
theorem dX0_needs_34 : decode cX0_needs 34 = .ok (.getfield 9, 3) := by decide +kernel
theorem dX0_needs_37 : decode cX0_needs 37 = .ok (.iload_n 2, 1) := by decide +kernel
theorem dX0_needs_38 : decode cX0_needs 38 = .ok (.iload_n 3, 1) := by decide +kernel
theorem dX0_needs_39 : decode cX0_needs 39 = .ok (.bastore, 1) := by decide +kernel
theorem dX0_needs_40 : decode cX0_needs 40 = .ok (.aload_n 0, 1) := by decide +kernel
theorem dX0_needs_41 : decode cX0_needs 41 = .ok (.getfield 32, 3) := by decide +kernel
theorem dX0_needs_44 : decode cX0_needs 44 = .ok (.iload_n 1, 1) := by decide +kernel
theorem dX0_needs_45 : decode cX0_needs 45 = .ok (.iaload, 1) := by decide +kernel
theorem dX0_needs_46 : decode cX0_needs 46 = .ok (.ifCond .le 16, 3) := by decide +kernel
theorem dX0_needs_49 : decode cX0_needs 49 = .ok (.aload_n 0, 1) := by decide +kernel
theorem dX0_needs_50 : decode cX0_needs 50 = .ok (.getfield 47, 3) := by decide +kernel
theorem dX0_needs_53 : decode cX0_needs 53 = .ok (.iload_n 1, 1) := by decide +kernel
theorem dX0_needs_54 : decode cX0_needs 54 = .ok (.iaload, 1) := by decide +kernel
theorem dX0_needs_55 : decode cX0_needs 55 = .ok (.ifCond .ne 7, 3) := by decide +kernel
theorem dX0_needs_58 : decode cX0_needs 58 = .ok (.iconst 1, 1) := by decide +kernel
theorem dX0_needs_59 : decode cX0_needs 59 = .ok (.goto 4, 3) := by decide +kernel
theorem dX0_needs_62 : decode cX0_needs 62 = .ok (.iconst 0, 1) := by decide +kernel
theorem dX0_needs_63 : decode cX0_needs 63 = .ok (.ireturn, 1) := by decide +kernel
theorem dX0_advise_0 : decode cX0_advise 0 = .ok (.iconst (-1), 1) := by decide +kernel
theorem dX0_advise_1 : decode cX0_advise 1 = .ok (.istore_n 1, 1) := by decide +kernel
theorem dX0_advise_2 : decode cX0_advise 2 = .ok (.aload_n 0, 1) := by decide +kernel
theorem dX0_advise_3 : decode cX0_advise 3 = .ok (.getfield 140, 3) := by decide +kernel
theorem dX0_advise_6 : decode cX0_advise 6 = .ok (.istore_n 2, 1) := by decide +kernel
theorem dX0_advise_7 : decode cX0_advise 7 = .ok (.iconst 0, 1) := by decide +kernel
theorem dX0_advise_8 : decode cX0_advise 8 = .ok (.istore_n 3, 1) := by decide +kernel
theorem dX0_advise_9 : decode cX0_advise 9 = .ok (.iload_n 3, 1) := by decide +kernel
theorem dX0_advise_10 : decode cX0_advise 10 = .ok (.aload_n 0, 1) := by decide +kernel
theorem dX0_advise_11 : decode cX0_advise 11 = .ok (.getfield 57, 3) := by decide +kernel
theorem dX0_advise_14 : decode cX0_advise 14 = .ok (.if_icmp .ge 91, 3) := by decide +kernel
theorem dX0_advise_17 : decode cX0_advise 17 = .ok (.iconst 0, 1) := by decide +kernel
theorem dX0_advise_18 : decode cX0_advise 18 = .ok (.istore 4, 2) := by decide +kernel
theorem dX0_advise_20 : decode cX0_advise 20 = .ok (.iload 4, 2) := by decide +kernel
theorem dX0_advise_22 : decode cX0_advise 22 = .ok (.aload_n 0, 1) := by decide +kernel
theorem dX0_advise_23 : decode cX0_advise 23 = .ok (.getfield 13, 3) := by decide +kernel
theorem dX0_advise_26 : decode cX0_advise 26 = .ok (.iload_n 3, 1) := by decide +kernel
theorem dX0_advise_27 : decode cX0_advise 27 = .ok (.iaload, 1) := by decide +kernel
theorem dX0_advise_28 : decode cX0_advise 28 = .ok (.if_icmp .ge 71, 3) := by decide +kernel
theorem dX0_advise_31 : decode cX0_advise 31 = .ok (.iconst 0, 1) := by decide +kernel
theorem dX0_advise_32 : decode cX0_advise 32 = .ok (.istore 5, 2) := by decide +kernel
theorem dX0_advise_34 : decode cX0_advise 34 = .ok (.iload 5, 2) := by decide +kernel
theorem dX0_advise_36 : decode cX0_advise 36 = .ok (.aload_n 0, 1) := by decide +kernel
theorem dX0_advise_37 : decode cX0_advise 37 = .ok (.getfield 17, 3) := by decide +kernel
theorem dX0_advise_40 : decode cX0_advise 40 = .ok (.iload_n 3, 1) := by decide +kernel
theorem dX0_advise_41 : decode cX0_advise 41 = .ok (.iload 4, 2) := by decide +kernel
theorem dX0_advise_43 : decode cX0_advise 43 = .ok (.invokestatic 73, 3) := by decide +kernel
theorem dX0_advise_46 : decode cX0_advise 46 = .ok (.iaload, 1) := by decide +kernel
theorem dX0_advise_47 : decode cX0_advise 47 = .ok (.if_icmp .ge 46, 3) := by decide +kernel
theorem dX0_advise_50 : decode cX0_advise 50 = .ok (.aload_n 0, 1) := by decide +kernel
theorem dX0_advise_51 : decode cX0_advise 51 = .ok (.iload_n 3, 1) := by decide +kernel
theorem dX0_advise_52 : decode cX0_advise 52 = .ok (.iload 4, 2) := by decide +kernel
theorem dX0_advise_54 : decode cX0_advise 54 = .ok (.iload 5, 2) := by decide +kernel
theorem dX0_advise_56 : decode cX0_advise 56 = .ok (.invokestatic 99, 3) := by decide +kernel
theorem dX0_advise_59 : decode cX0_advise 59 = .ok (.invokevirtual 143, 3) := by decide +kernel
theorem dX0_advise_62 : decode cX0_advise 62 = .ok (.istore 6, 2) := by decide +kernel
theorem dX0_advise_64 : decode cX0_advise 64 = .ok (.iload 6, 2) := by decide +kernel
theorem dX0_advise_66 : decode cX0_advise 66 = .ok (.iload_n 2, 1) := by decide +kernel
theorem dX0_advise_67 : decode cX0_advise 67 = .ok (.if_icmp .le 20, 3) := by decide +kernel
theorem dX0_advise_70 : decode cX0_advise 70 = .ok (.iload 6, 2) := by decide +kernel
theorem dX0_advise_72 : decode cX0_advise 72 = .ok (.istore_n 2, 1) := by decide +kernel
theorem dX0_advise_73 : decode cX0_advise 73 = .ok (.bipush 100, 2) := by decide +kernel
theorem dX0_advise_75 : decode cX0_advise 75 = .ok (.iload_n 3, 1) := by decide +kernel
theorem dX0_advise_76 : decode cX0_advise 76 = .ok (.imul, 1) := by decide +kernel
theorem dX0_advise_77 : decode cX0_advise 77 = .ok (.bipush 10, 2) := by decide +kernel
theorem dX0_advise_79 : decode cX0_advise 79 = .ok (.iload 4, 2) := by decide +kernel
theorem dX0_advise_81 : decode cX0_advise 81 = .ok (.imul, 1) := by decide +kernel
theorem dX0_advise_82 : decode cX0_advise 82 = .ok (.iadd, 1) := by decide +kernel
theorem dX0_advise_83 : decode cX0_advise 83 = .ok (.iload 5, 2) := by decide +kernel
theorem dX0_advise_85 : decode cX0_advise 85 = .ok (.iadd, 1) := by decide +kernel
theorem dX0_advise_86 : decode cX0_advise 86 = .ok (.istore_n 1, 1) := by decide +kernel
theorem dX0_advise_87 : decode cX0_advise 87 = .ok (.iinc 5 1, 3) := by decide +kernel
theorem dX0_advise_90 : decode cX0_advise 90 = .ok (.goto (-56), 3) := by decide +kernel
theorem dX0_advise_93 : decode cX0_advise 93 = .ok (.iinc 4 1, 3) := by decide +kernel
theorem dX0_advise_96 : decode cX0_advise 96 = .ok (.goto (-76), 3) := by decide +kernel
theorem dX0_advise_99 : decode cX0_advise 99 = .ok (.iinc 3 1, 3) := by decide +kernel
theorem dX0_advise_102 : decode cX0_advise 102 = .ok (.goto (-93), 3) := by decide +kernel
theorem dX0_advise_105 : decode cX0_advise 105 = .ok (.iload_n 1, 1) := by decide +kernel
theorem dX0_advise_106 : decode cX0_advise 106 = .ok (.ireturn, 1) := by decide +kernel
theorem dX0_mean_0 : decode cX0_mean 0 = .ok (.aload_n 0, 1) := by decide +kernel
theorem dX0_mean_1 : decode cX0_mean 1 = .ok (.getfield 57, 3) := by decide +kernel
theorem dX0_mean_4 : decode cX0_mean 4 = .ok (.ifCond .ne 7, 3) := by decide +kernel
theorem dX0_mean_7 : decode cX0_mean 7 = .ok (.dconst 0, 1) := by decide +kernel
theorem dX0_mean_8 : decode cX0_mean 8 = .ok (.goto 15, 3) := by decide +kernel
theorem dX0_mean_11 : decode cX0_mean 11 = .ok (.aload_n 0, 1) := by decide +kernel
theorem dX0_mean_12 : decode cX0_mean 12 = .ok (.iconst 1, 1) := by decide +kernel
theorem dX0_mean_13 : decode cX0_mean 13 = .ok (.invokevirtual 146, 3) := by decide +kernel
theorem dX0_mean_16 : decode cX0_mean 16 = .ok (.i2d, 1) := by decide +kernel
theorem dX0_mean_17 : decode cX0_mean 17 = .ok (.aload_n 0, 1) := by decide +kernel
theorem dX0_mean_18 : decode cX0_mean 18 = .ok (.getfield 57, 3) := by decide +kernel
theorem dX0_mean_21 : decode cX0_mean 21 = .ok (.i2d, 1) := by decide +kernel
theorem dX0_mean_22 : decode cX0_mean 22 = .ok (.ddiv, 1) := by decide +kernel
theorem dX0_mean_23 : decode cX0_mean 23 = .ok (.dreturn, 1) := by decide +kernel
theorem dX0_digest_0 : decode cX0_digest 0 = .ok (.ldc2_w 149, 3) := by decide +kernel
theorem dX0_digest_3 : decode cX0_digest 3 = .ok (.lstore_n 1, 1) := by decide +kernel
theorem dX0_digest_4 : decode cX0_digest 4 = .ok (.iconst 0, 1) := by decide +kernel
theorem dX0_digest_5 : decode cX0_digest 5 = .ok (.istore_n 3, 1) := by decide +kernel
theorem dX0_digest_6 : decode cX0_digest 6 = .ok (.iload_n 3, 1) := by decide +kernel
theorem dX0_digest_7 : decode cX0_digest 7 = .ok (.bipush 7, 2) := by decide +kernel
theorem dX0_digest_9 : decode cX0_digest 9 = .ok (.if_icmp .ge 22, 3) := by decide +kernel
theorem dX0_digest_12 : decode cX0_digest 12 = .ok (.lload_n 1, 1) := by decide +kernel
theorem dX0_digest_13 : decode cX0_digest 13 = .ok (.ldc2_w 151, 3) := by decide +kernel
theorem dX0_digest_16 : decode cX0_digest 16 = .ok (.lmul, 1) := by decide +kernel
theorem dX0_digest_17 : decode cX0_digest 17 = .ok (.aload_n 0, 1) := by decide +kernel
theorem dX0_digest_18 : decode cX0_digest 18 = .ok (.iload_n 3, 1) := by decide +kernel
theorem dX0_digest_19 : decode cX0_digest 19 = .ok (.invokevirtual 133, 3) := by decide +kernel
theorem dX0_digest_22 : decode cX0_digest 22 = .ok (.i2l, 1) := by decide +kernel
theorem dX0_digest_23 : decode cX0_digest 23 = .ok (.ladd, 1) := by decide +kernel
theorem dX0_digest_24 : decode cX0_digest 24 = .ok (.lstore_n 1, 1) := by decide +kernel
theorem dX0_digest_25 : decode cX0_digest 25 = .ok (.iinc 3 1, 3) := by decide +kernel
theorem dX0_digest_28 : decode cX0_digest 28 = .ok (.goto (-22), 3) := by decide +kernel
theorem dX0_digest_31 : decode cX0_digest 31 = .ok (.iconst 0, 1) := by decide +kernel
theorem dX0_digest_32 : decode cX0_digest 32 = .ok (.istore_n 3, 1) := by decide +kernel
theorem dX0_digest_33 : decode cX0_digest 33 = .ok (.iload_n 3, 1) := by decide +kernel
theorem dX0_digest_34 : decode cX0_digest 34 = .ok (.iconst 5, 1) := by decide +kernel
theorem dX0_digest_35 : decode cX0_digest 35 = .ok (.if_icmp .ge 31, 3) := by decide +kernel
theorem dX0_digest_38 : decode cX0_digest 38 = .ok (.lload_n 1, 1) := by decide +kernel
theorem dX0_digest_39 : decode cX0_digest 39 = .ok (.ldc2_w 151, 3) := by decide +kernel
theorem dX0_digest_42 : decode cX0_digest 42 = .ok (.lmul, 1) := by decide +kernel
theorem dX0_digest_43 : decode cX0_digest 43 = .ok (.aload_n 0, 1) := by decide +kernel
theorem dX0_digest_44 : decode cX0_digest 44 = .ok (.getfield 9, 3) := by decide +kernel
theorem dX0_digest_47 : decode cX0_digest 47 = .ok (.iload_n 3, 1) := by decide +kernel
theorem dX0_digest_48 : decode cX0_digest 48 = .ok (.baload, 1) := by decide +kernel
theorem dX0_digest_49 : decode cX0_digest 49 = .ok (.ifCond .eq 7, 3) := by decide +kernel
theorem dX0_digest_52 : decode cX0_digest 52 = .ok (.iconst 1, 1) := by decide +kernel
theorem dX0_digest_53 : decode cX0_digest 53 = .ok (.goto 4, 3) := by decide +kernel
theorem dX0_digest_56 : decode cX0_digest 56 = .ok (.iconst 0, 1) := by decide +kernel
theorem dX0_digest_57 : decode cX0_digest 57 = .ok (.i2l, 1) := by decide +kernel
theorem dX0_digest_58 : decode cX0_digest 58 = .ok (.ladd, 1) := by decide +kernel
theorem dX0_digest_59 : decode cX0_digest 59 = .ok (.lstore_n 1, 1) := by decide +kernel
theorem dX0_digest_60 : decode cX0_digest 60 = .ok (.iinc 3 1, 3) := by decide +kernel
theorem dX0_digest_63 : decode cX0_digest 63 = .ok (.goto (-30), 3) := by decide +kernel
theorem dX0_digest_66 : decode cX0_digest 66 = .ok (.iconst 0, 1) := by decide +kernel
theorem dX0_digest_67 : decode cX0_digest 67 = .ok (.istore_n 3, 1) := by decide +kernel
theorem dX0_digest_68 : decode cX0_digest 68 = .ok (.iload_n 3, 1) := by decide +kernel
theorem dX0_digest_69 : decode cX0_digest 69 = .ok (.aload_n 0, 1) := by decide +kernel
theorem dX0_digest_70 : decode cX0_digest 70 = .ok (.getfield 57, 3) := by decide +kernel
theorem dX0_digest_73 : decode cX0_digest 73 = .ok (.if_icmp .ge 16, 3) := by decide +kernel
theorem dX0_digest_76 : decode cX0_digest 76 = .ok (.aload_n 0, 1) := by decide +kernel
theorem dX0_digest_77 : decode cX0_digest 77 = .ok (.lload_n 1, 1) := by decide +kernel
theorem dX0_digest_78 : decode cX0_digest 78 = .ok (.iload_n 3, 1) := by decide +kernel
theorem dX0_digest_79 : decode cX0_digest 79 = .ok (.invokevirtual 153, 3) := by decide +kernel
theorem dX0_digest_82 : decode cX0_digest 82 = .ok (.lstore_n 1, 1) := by decide +kernel
theorem dX0_digest_83 : decode cX0_digest 83 = .ok (.iinc 3 1, 3) := by decide +kernel
theorem dX0_digest_86 : decode cX0_digest 86 = .ok (.goto (-18), 3) := by decide +kernel
theorem dX0_digest_89 : decode cX0_digest 89 = .ok (.lload_n 1, 1) := by decide +kernel
theorem dX0_digest_90 : decode cX0_digest 90 = .ok (.lreturn, 1) := by decide +kernel
theorem dX0_isAxiom_0 : decode cX0_isAxiom 0 = .ok (.iload_n 0, 1) := by decide +kernel
theorem dX0_isAxiom_1 : decode cX0_isAxiom 1 = .ok (.ifCond .lt 12, 3) := by decide +kernel
theorem dX0_isAxiom_4 : decode cX0_isAxiom 4 = .ok (.iload_n 0, 1) := by decide +kernel
theorem dX0_isAxiom_5 : decode cX0_isAxiom 5 = .ok (.iconst 5, 1) := by decide +kernel
theorem dX0_isAxiom_6 : decode cX0_isAxiom 6 = .ok (.if_icmp .ge 7, 3) := by decide +kernel
theorem dX0_isAxiom_9 : decode cX0_isAxiom 9 = .ok (.iconst 1, 1) := by decide +kernel
theorem dX0_isAxiom_10 : decode cX0_isAxiom 10 = .ok (.goto 4, 3) := by decide +kernel
theorem dX0_isAxiom_13 : decode cX0_isAxiom 13 = .ok (.iconst 0, 1) := by decide +kernel
theorem dX0_isAxiom_14 : decode cX0_isAxiom 14 = .ok (.ireturn, 1) := by decide +kernel
theorem dX0_isLemma_0 : decode cX0_isLemma 0 = .ok (.iload_n 1, 1) := by decide +kernel
theorem dX0_isLemma_1 : decode cX0_isLemma 1 = .ok (.ifCond .lt 15, 3) := by decide +kernel
theorem dX0_isLemma_4 : decode cX0_isLemma 4 = .ok (.iload_n 1, 1) := by decide +kernel
theorem dX0_isLemma_5 : decode cX0_isLemma 5 = .ok (.aload_n 0, 1) := by decide +kernel
theorem dX0_isLemma_6 : decode cX0_isLemma 6 = .ok (.getfield 57, 3) := by decide +kernel
theorem dX0_isLemma_9 : decode cX0_isLemma 9 = .ok (.if_icmp .ge 7, 3) := by decide +kernel
theorem dX0_isLemma_12 : decode cX0_isLemma 12 = .ok (.iconst 1, 1) := by decide +kernel
theorem dX0_isLemma_13 : decode cX0_isLemma 13 = .ok (.goto 4, 3) := by decide +kernel
theorem dX0_isLemma_16 : decode cX0_isLemma 16 = .ok (.iconst 0, 1) := by decide +kernel
theorem dX0_isLemma_17 : decode cX0_isLemma 17 = .ok (.ireturn, 1) := by decide +kernel
theorem dX0_requireAxiom_0 : decode cX0_requireAxiom 0 = .ok (.iload_n 0, 1) := by decide +kernel
theorem dX0_requireAxiom_1 : decode cX0_requireAxiom 1 = .ok (.invokestatic 157, 3) := by decide +kernel
theorem dX0_requireAxiom_4 : decode cX0_requireAxiom 4 = .ok (.ifCond .ne 13, 3) := by decide +kernel
theorem dX0_requireAxiom_7 : decode cX0_requireAxiom 7 = .ok (.new 161, 3) := by decide +kernel
theorem dX0_requireAxiom_10 : decode cX0_requireAxiom 10 = .ok (.dup, 1) := by decide +kernel
theorem dX0_requireAxiom_11 : decode cX0_requireAxiom 11 = .ok (.ldc 163, 2) := by decide +kernel
theorem dX0_requireAxiom_13 : decode cX0_requireAxiom 13 = .ok (.invokespecial 165, 3) := by decide +kernel
theorem dX0_requireAxiom_16 : decode cX0_requireAxiom 16 = .ok (.athrow, 1) := by decide +kernel
theorem dX0_requireAxiom_17 : decode cX0_requireAxiom 17 = .ok (.return_, 1) := by decide +kernel
theorem dX0_requireLemma_0 : decode cX0_requireLemma 0 = .ok (.aload_n 0, 1) := by decide +kernel
theorem dX0_requireLemma_1 : decode cX0_requireLemma 1 = .ok (.iload_n 1, 1) := by decide +kernel
theorem dX0_requireLemma_2 : decode cX0_requireLemma 2 = .ok (.invokevirtual 166, 3) := by decide +kernel
theorem dX0_requireLemma_5 : decode cX0_requireLemma 5 = .ok (.ifCond .ne 13, 3) := by decide +kernel
theorem dX0_requireLemma_8 : decode cX0_requireLemma 8 = .ok (.new 161, 3) := by decide +kernel
theorem dX0_requireLemma_11 : decode cX0_requireLemma 11 = .ok (.dup, 1) := by decide +kernel
theorem dX0_requireLemma_12 : decode cX0_requireLemma 12 = .ok (.ldc 169, 2) := by decide +kernel
theorem dX0_requireLemma_14 : decode cX0_requireLemma 14 = .ok (.invokespecial 165, 3) := by decide +kernel
theorem dX0_requireLemma_17 : decode cX0_requireLemma 17 = .ok (.athrow, 1) := by decide +kernel
theorem dX0_requireLemma_18 : decode cX0_requireLemma 18 = .ok (.return_, 1) := by decide +kernel
theorem dX0_requireProof_0 : decode cX0_requireProof 0 = .ok (.aload_n 0, 1) := by decide +kernel
theorem dX0_requireProof_1 : decode cX0_requireProof 1 = .ok (.iload_n 1, 1) := by decide +kernel
theorem dX0_requireProof_2 : decode cX0_requireProof 2 = .ok (.invokevirtual 68, 3) := by decide +kernel
theorem dX0_requireProof_5 : decode cX0_requireProof 5 = .ok (.iload_n 2, 1) := by decide +kernel
theorem dX0_requireProof_6 : decode cX0_requireProof 6 = .ok (.ifCond .lt 13, 3) := by decide +kernel
theorem dX0_requireProof_9 : decode cX0_requireProof 9 = .ok (.iload_n 2, 1) := by decide +kernel
theorem dX0_requireProof_10 : decode cX0_requireProof 10 = .ok (.aload_n 0, 1) := by decide +kernel
theorem dX0_requireProof_11 : decode cX0_requireProof 11 = .ok (.getfield 13, 3) := by decide +kernel
theorem dX0_requireProof_14 : decode cX0_requireProof 14 = .ok (.iload_n 1, 1) := by decide +kernel
theorem dX0_requireProof_15 : decode cX0_requireProof 15 = .ok (.iaload, 1) := by decide +kernel
theorem dX0_requireProof_16 : decode cX0_requireProof 16 = .ok (.if_icmp .lt 13, 3) := by decide +kernel
theorem dX0_requireProof_19 : decode cX0_requireProof 19 = .ok (.new 161, 3) := by decide +kernel
theorem dX0_requireProof_22 : decode cX0_requireProof 22 = .ok (.dup, 1) := by decide +kernel
theorem dX0_requireProof_23 : decode cX0_requireProof 23 = .ok (.ldc 171, 2) := by decide +kernel
theorem dX0_requireProof_25 : decode cX0_requireProof 25 = .ok (.invokespecial 165, 3) := by decide +kernel
theorem dX0_requireProof_28 : decode cX0_requireProof 28 = .ok (.athrow, 1) := by decide +kernel
theorem dX0_requireProof_29 : decode cX0_requireProof 29 = .ok (.return_, 1) := by decide +kernel
theorem dX0_requireStep_0 : decode cX0_requireStep 0 = .ok (.aload_n 0, 1) := by decide +kernel
theorem dX0_requireStep_1 : decode cX0_requireStep 1 = .ok (.iload_n 1, 1) := by decide +kernel
theorem dX0_requireStep_2 : decode cX0_requireStep 2 = .ok (.iload_n 2, 1) := by decide +kernel
theorem dX0_requireStep_3 : decode cX0_requireStep 3 = .ok (.invokevirtual 77, 3) := by decide +kernel
theorem dX0_requireStep_6 : decode cX0_requireStep 6 = .ok (.iload_n 3, 1) := by decide +kernel
theorem dX0_requireStep_7 : decode cX0_requireStep 7 = .ok (.ifCond .lt 17, 3) := by decide +kernel
theorem dX0_requireStep_10 : decode cX0_requireStep 10 = .ok (.iload_n 3, 1) := by decide +kernel
theorem dX0_requireStep_11 : decode cX0_requireStep 11 = .ok (.aload_n 0, 1) := by decide +kernel
theorem dX0_requireStep_12 : decode cX0_requireStep 12 = .ok (.getfield 17, 3) := by decide +kernel
theorem dX0_requireStep_15 : decode cX0_requireStep 15 = .ok (.iload_n 1, 1) := by decide +kernel
theorem dX0_requireStep_16 : decode cX0_requireStep 16 = .ok (.iload_n 2, 1) := by decide +kernel
theorem dX0_requireStep_17 : decode cX0_requireStep 17 = .ok (.invokestatic 73, 3) := by decide +kernel
theorem dX0_requireStep_20 : decode cX0_requireStep 20 = .ok (.iaload, 1) := by decide +kernel
theorem dX0_requireStep_21 : decode cX0_requireStep 21 = .ok (.if_icmp .lt 13, 3) := by decide +kernel
theorem dX0_requireStep_24 : decode cX0_requireStep 24 = .ok (.new 161, 3) := by decide +kernel
theorem dX0_requireStep_27 : decode cX0_requireStep 27 = .ok (.dup, 1) := by decide +kernel
theorem dX0_requireStep_28 : decode cX0_requireStep 28 = .ok (.ldc 173, 2) := by decide +kernel
theorem dX0_requireStep_30 : decode cX0_requireStep 30 = .ok (.invokespecial 165, 3) := by decide +kernel
theorem dX0_requireStep_33 : decode cX0_requireStep 33 = .ok (.athrow, 1) := by decide +kernel
theorem dX0_requireStep_34 : decode cX0_requireStep 34 = .ok (.return_, 1) := by decide +kernel
theorem dX0_requireCitable_0 : decode cX0_requireCitable 0 = .ok (.iload_n 1, 1) := by decide +kernel
theorem dX0_requireCitable_1 : decode cX0_requireCitable 1 = .ok (.ifCond .lt 8, 3) := by decide +kernel
theorem dX0_requireCitable_4 : decode cX0_requireCitable 4 = .ok (.iload_n 1, 1) := by decide +kernel
theorem dX0_requireCitable_5 : decode cX0_requireCitable 5 = .ok (.iconst 2, 1) := by decide +kernel
theorem dX0_requireCitable_6 : decode cX0_requireCitable 6 = .ok (.if_icmp .le 13, 3) := by decide +kernel
theorem dX0_requireCitable_9 : decode cX0_requireCitable 9 = .ok (.new 161, 3) := by decide +kernel
theorem dX0_requireCitable_12 : decode cX0_requireCitable 12 = .ok (.dup, 1) := by decide +kernel
theorem dX0_requireCitable_13 : decode cX0_requireCitable 13 = .ok (.ldc 175, 2) := by decide +kernel
theorem dX0_requireCitable_15 : decode cX0_requireCitable 15 = .ok (.invokespecial 165, 3) := by decide +kernel
theorem dX0_requireCitable_18 : decode cX0_requireCitable 18 = .ok (.athrow, 1) := by decide +kernel
theorem dX0_requireCitable_19 : decode cX0_requireCitable 19 = .ok (.iload_n 1, 1) := by decide +kernel
theorem dX0_requireCitable_20 : decode cX0_requireCitable 20 = .ok (.ifCond .ne 10, 3) := by decide +kernel
theorem dX0_requireCitable_23 : decode cX0_requireCitable 23 = .ok (.iload_n 2, 1) := by decide +kernel
theorem dX0_requireCitable_24 : decode cX0_requireCitable 24 = .ok (.invokestatic 50, 3) := by decide +kernel
theorem dX0_requireCitable_27 : decode cX0_requireCitable 27 = .ok (.goto 37, 3) := by decide +kernel
theorem dX0_requireCitable_30 : decode cX0_requireCitable 30 = .ok (.iload_n 1, 1) := by decide +kernel
theorem dX0_requireCitable_31 : decode cX0_requireCitable 31 = .ok (.iconst 1, 1) := by decide +kernel
theorem dX0_requireCitable_32 : decode cX0_requireCitable 32 = .ok (.if_icmp .ne 11, 3) := by decide +kernel
theorem dX0_requireCitable_35 : decode cX0_requireCitable 35 = .ok (.aload_n 0, 1) := by decide +kernel
theorem dX0_requireCitable_36 : decode cX0_requireCitable 36 = .ok (.iload_n 2, 1) := by decide +kernel
theorem dX0_requireCitable_37 : decode cX0_requireCitable 37 = .ok (.invokevirtual 68, 3) := by decide +kernel
theorem dX0_requireCitable_40 : decode cX0_requireCitable 40 = .ok (.goto 24, 3) := by decide +kernel
theorem dX0_requireCitable_43 : decode cX0_requireCitable 43 = .ok (.iload_n 2, 1) := by decide +kernel
theorem dX0_requireCitable_44 : decode cX0_requireCitable 44 = .ok (.iconst 1, 1) := by decide +kernel
theorem dX0_requireCitable_45 : decode cX0_requireCitable 45 = .ok (.if_icmp .lt 9, 3) := by decide +kernel
theorem dX0_requireCitable_48 : decode cX0_requireCitable 48 = .ok (.iload_n 2, 1) := by decide +kernel
theorem dX0_requireCitable_49 : decode cX0_requireCitable 49 = .ok (.bipush 9, 2) := by decide +kernel
theorem dX0_requireCitable_51 : decode cX0_requireCitable 51 = .ok (.if_icmp .le 13, 3) := by decide +kernel
theorem dX0_requireCitable_54 : decode cX0_requireCitable 54 = .ok (.new 94, 3) := by decide +kernel
theorem dX0_requireCitable_57 : decode cX0_requireCitable 57 = .ok (.dup, 1) := by decide +kernel
theorem dX0_requireCitable_58 : decode cX0_requireCitable 58 = .ok (.ldc 177, 2) := by decide +kernel
theorem dX0_requireCitable_60 : decode cX0_requireCitable 60 = .ok (.invokespecial 98, 3) := by decide +kernel
theorem dX0_requireCitable_63 : decode cX0_requireCitable 63 = .ok (.athrow, 1) := by decide +kernel
theorem dX0_requireCitable_64 : decode cX0_requireCitable 64 = .ok (.return_, 1) := by decide +kernel
theorem dX0_requireAsk_0 : decode cX0_requireAsk 0 = .ok (.iload_n 0, 1) := by decide +kernel
theorem dX0_requireAsk_1 : decode cX0_requireAsk 1 = .ok (.ifCond .lt 8, 3) := by decide +kernel
theorem dX0_requireAsk_4 : decode cX0_requireAsk 4 = .ok (.iload_n 0, 1) := by decide +kernel
theorem dX0_requireAsk_5 : decode cX0_requireAsk 5 = .ok (.iload_n 1, 1) := by decide +kernel
theorem dX0_requireAsk_6 : decode cX0_requireAsk 6 = .ok (.if_icmp .lt 13, 3) := by decide +kernel
theorem dX0_requireAsk_9 : decode cX0_requireAsk 9 = .ok (.new 161, 3) := by decide +kernel
theorem dX0_requireAsk_12 : decode cX0_requireAsk 12 = .ok (.dup, 1) := by decide +kernel
theorem dX0_requireAsk_13 : decode cX0_requireAsk 13 = .ok (.ldc 179, 2) := by decide +kernel
theorem dX0_requireAsk_15 : decode cX0_requireAsk 15 = .ok (.invokespecial 165, 3) := by decide +kernel
theorem dX0_requireAsk_18 : decode cX0_requireAsk 18 = .ok (.athrow, 1) := by decide +kernel
theorem dX0_requireAsk_19 : decode cX0_requireAsk 19 = .ok (.return_, 1) := by decide +kernel
theorem dX0_slotOf_0 : decode cX0_slotOf 0 = .ok (.iload_n 0, 1) := by decide +kernel
theorem dX0_slotOf_1 : decode cX0_slotOf 1 = .ok (.iconst 3, 1) := by decide +kernel
theorem dX0_slotOf_2 : decode cX0_slotOf 2 = .ok (.imul, 1) := by decide +kernel
theorem dX0_slotOf_3 : decode cX0_slotOf 3 = .ok (.iload_n 1, 1) := by decide +kernel
theorem dX0_slotOf_4 : decode cX0_slotOf 4 = .ok (.iadd, 1) := by decide +kernel
theorem dX0_slotOf_5 : decode cX0_slotOf 5 = .ok (.ireturn, 1) := by decide +kernel
theorem dX0_firstStepOf_0 : decode cX0_firstStepOf 0 = .ok (.iload_n 0, 1) := by decide +kernel
theorem dX0_firstStepOf_1 : decode cX0_firstStepOf 1 = .ok (.iconst 5, 1) := by decide +kernel
theorem dX0_firstStepOf_2 : decode cX0_firstStepOf 2 = .ok (.imul, 1) := by decide +kernel
theorem dX0_firstStepOf_3 : decode cX0_firstStepOf 3 = .ok (.ireturn, 1) := by decide +kernel
theorem dX0_endOfSteps_0 : decode cX0_endOfSteps 0 = .ok (.iload_n 1, 1) := by decide +kernel
theorem dX0_endOfSteps_1 : decode cX0_endOfSteps 1 = .ok (.iconst 5, 1) := by decide +kernel
theorem dX0_endOfSteps_2 : decode cX0_endOfSteps 2 = .ok (.imul, 1) := by decide +kernel
theorem dX0_endOfSteps_3 : decode cX0_endOfSteps 3 = .ok (.aload_n 0, 1) := by decide +kernel
theorem dX0_endOfSteps_4 : decode cX0_endOfSteps 4 = .ok (.getfield 17, 3) := by decide +kernel
theorem dX0_endOfSteps_7 : decode cX0_endOfSteps 7 = .ok (.iload_n 1, 1) := by decide +kernel
theorem dX0_endOfSteps_8 : decode cX0_endOfSteps 8 = .ok (.iaload, 1) := by decide +kernel
theorem dX0_endOfSteps_9 : decode cX0_endOfSteps 9 = .ok (.iadd, 1) := by decide +kernel
theorem dX0_endOfSteps_10 : decode cX0_endOfSteps 10 = .ok (.ireturn, 1) := by decide +kernel
theorem dX0_stepAt_0 : decode cX0_stepAt 0 = .ok (.iload_n 0, 1) := by decide +kernel
theorem dX0_stepAt_1 : decode cX0_stepAt 1 = .ok (.iload_n 1, 1) := by decide +kernel
theorem dX0_stepAt_2 : decode cX0_stepAt 2 = .ok (.invokestatic 73, 3) := by decide +kernel
theorem dX0_stepAt_5 : decode cX0_stepAt 5 = .ok (.invokestatic 181, 3) := by decide +kernel
theorem dX0_stepAt_8 : decode cX0_stepAt 8 = .ok (.iload_n 2, 1) := by decide +kernel
theorem dX0_stepAt_9 : decode cX0_stepAt 9 = .ok (.iadd, 1) := by decide +kernel
theorem dX0_stepAt_10 : decode cX0_stepAt 10 = .ok (.ireturn, 1) := by decide +kernel
theorem dX0_moveUp_0 : decode cX0_moveUp 0 = .ok (.iload_n 1, 1) := by decide +kernel
theorem dX0_moveUp_1 : decode cX0_moveUp 1 = .ok (.iconst 1, 1) := by decide +kernel
theorem dX0_moveUp_2 : decode cX0_moveUp 2 = .ok (.iadd, 1) := by decide +kernel
theorem dX0_moveUp_3 : decode cX0_moveUp 3 = .ok (.istore_n 2, 1) := by decide +kernel
theorem dX0_moveUp_4 : decode cX0_moveUp 4 = .ok (.iload_n 2, 1) := by decide +kernel
theorem dX0_moveUp_5 : decode cX0_moveUp 5 = .ok (.invokestatic 181, 3) := by decide +kernel
theorem dX0_moveUp_8 : decode cX0_moveUp 8 = .ok (.iload_n 1, 1) := by decide +kernel
theorem dX0_moveUp_9 : decode cX0_moveUp 9 = .ok (.invokestatic 181, 3) := by decide +kernel
theorem dX0_moveUp_12 : decode cX0_moveUp 12 = .ok (.isub, 1) := by decide +kernel
theorem dX0_moveUp_13 : decode cX0_moveUp 13 = .ok (.istore_n 3, 1) := by decide +kernel
theorem dX0_moveUp_14 : decode cX0_moveUp 14 = .ok (.aload_n 0, 1) := by decide +kernel
theorem dX0_moveUp_15 : decode cX0_moveUp 15 = .ok (.getfield 17, 3) := by decide +kernel
theorem dX0_moveUp_18 : decode cX0_moveUp 18 = .ok (.iload_n 1, 1) := by decide +kernel
theorem dX0_moveUp_19 : decode cX0_moveUp 19 = .ok (.aload_n 0, 1) := by decide +kernel
theorem dX0_moveUp_20 : decode cX0_moveUp 20 = .ok (.getfield 17, 3) := by decide +kernel
theorem dX0_moveUp_23 : decode cX0_moveUp 23 = .ok (.iload_n 2, 1) := by decide +kernel
theorem dX0_moveUp_24 : decode cX0_moveUp 24 = .ok (.iaload, 1) := by decide +kernel
theorem dX0_moveUp_25 : decode cX0_moveUp 25 = .ok (.iastore, 1) := by decide +kernel
theorem dX0_moveUp_26 : decode cX0_moveUp 26 = .ok (.iload_n 1, 1) := by decide +kernel
theorem dX0_moveUp_27 : decode cX0_moveUp 27 = .ok (.invokestatic 181, 3) := by decide +kernel
theorem dX0_moveUp_30 : decode cX0_moveUp 30 = .ok (.istore 4, 2) := by decide +kernel
theorem dX0_moveUp_32 : decode cX0_moveUp 32 = .ok (.iload 4, 2) := by decide +kernel
theorem dX0_moveUp_34 : decode cX0_moveUp 34 = .ok (.aload_n 0, 1) := by decide +kernel
theorem dX0_moveUp_35 : decode cX0_moveUp 35 = .ok (.iload_n 1, 1) := by decide +kernel
theorem dX0_moveUp_36 : decode cX0_moveUp 36 = .ok (.invokevirtual 86, 3) := by decide +kernel
theorem dX0_moveUp_39 : decode cX0_moveUp 39 = .ok (.if_icmp .ge 73, 3) := by decide +kernel
theorem dX0_moveUp_42 : decode cX0_moveUp 42 = .ok (.aload_n 0, 1) := by decide +kernel
theorem dX0_moveUp_43 : decode cX0_moveUp 43 = .ok (.getfield 20, 3) := by decide +kernel
theorem dX0_moveUp_46 : decode cX0_moveUp 46 = .ok (.iload 4, 2) := by decide +kernel
theorem dX0_moveUp_48 : decode cX0_moveUp 48 = .ok (.aload_n 0, 1) := by decide +kernel
theorem dX0_moveUp_49 : decode cX0_moveUp 49 = .ok (.getfield 20, 3) := by decide +kernel
theorem dX0_moveUp_52 : decode cX0_moveUp 52 = .ok (.iload 4, 2) := by decide +kernel
theorem dX0_moveUp_54 : decode cX0_moveUp 54 = .ok (.iload_n 3, 1) := by decide +kernel
theorem dX0_moveUp_55 : decode cX0_moveUp 55 = .ok (.iadd, 1) := by decide +kernel
theorem dX0_moveUp_56 : decode cX0_moveUp 56 = .ok (.iaload, 1) := by decide +kernel
theorem dX0_moveUp_57 : decode cX0_moveUp 57 = .ok (.iastore, 1) := by decide +kernel
theorem dX0_moveUp_58 : decode cX0_moveUp 58 = .ok (.aload_n 0, 1) := by decide +kernel
theorem dX0_moveUp_59 : decode cX0_moveUp 59 = .ok (.getfield 23, 3) := by decide +kernel
theorem dX0_moveUp_62 : decode cX0_moveUp 62 = .ok (.iload 4, 2) := by decide +kernel
theorem dX0_moveUp_64 : decode cX0_moveUp 64 = .ok (.aload_n 0, 1) := by decide +kernel
theorem dX0_moveUp_65 : decode cX0_moveUp 65 = .ok (.getfield 23, 3) := by decide +kernel
theorem dX0_moveUp_68 : decode cX0_moveUp 68 = .ok (.iload 4, 2) := by decide +kernel
theorem dX0_moveUp_70 : decode cX0_moveUp 70 = .ok (.iload_n 3, 1) := by decide +kernel
theorem dX0_moveUp_71 : decode cX0_moveUp 71 = .ok (.iadd, 1) := by decide +kernel
theorem dX0_moveUp_72 : decode cX0_moveUp 72 = .ok (.iaload, 1) := by decide +kernel
theorem dX0_moveUp_73 : decode cX0_moveUp 73 = .ok (.iastore, 1) := by decide +kernel
theorem dX0_moveUp_74 : decode cX0_moveUp 74 = .ok (.aload_n 0, 1) := by decide +kernel
theorem dX0_moveUp_75 : decode cX0_moveUp 75 = .ok (.getfield 26, 3) := by decide +kernel
theorem dX0_moveUp_78 : decode cX0_moveUp 78 = .ok (.iload 4, 2) := by decide +kernel
theorem dX0_moveUp_80 : decode cX0_moveUp 80 = .ok (.aload_n 0, 1) := by decide +kernel
theorem dX0_moveUp_81 : decode cX0_moveUp 81 = .ok (.getfield 26, 3) := by decide +kernel
theorem dX0_moveUp_84 : decode cX0_moveUp 84 = .ok (.iload 4, 2) := by decide +kernel
theorem dX0_moveUp_86 : decode cX0_moveUp 86 = .ok (.iload_n 3, 1) := by decide +kernel
theorem dX0_moveUp_87 : decode cX0_moveUp 87 = .ok (.iadd, 1) := by decide +kernel
theorem dX0_moveUp_88 : decode cX0_moveUp 88 = .ok (.iaload, 1) := by decide +kernel
theorem dX0_moveUp_89 : decode cX0_moveUp 89 = .ok (.iastore, 1) := by decide +kernel
theorem dX0_moveUp_90 : decode cX0_moveUp 90 = .ok (.aload_n 0, 1) := by decide +kernel
theorem dX0_moveUp_91 : decode cX0_moveUp 91 = .ok (.getfield 29, 3) := by decide +kernel
theorem dX0_moveUp_94 : decode cX0_moveUp 94 = .ok (.iload 4, 2) := by decide +kernel
theorem dX0_moveUp_96 : decode cX0_moveUp 96 = .ok (.aload_n 0, 1) := by decide +kernel
theorem dX0_moveUp_97 : decode cX0_moveUp 97 = .ok (.getfield 29, 3) := by decide +kernel
theorem dX0_moveUp_100 : decode cX0_moveUp 100 = .ok (.iload 4, 2) := by decide +kernel
theorem dX0_moveUp_102 : decode cX0_moveUp 102 = .ok (.iload_n 3, 1) := by decide +kernel
theorem dX0_moveUp_103 : decode cX0_moveUp 103 = .ok (.iadd, 1) := by decide +kernel
theorem dX0_moveUp_104 : decode cX0_moveUp 104 = .ok (.baload, 1) := by decide +kernel
theorem dX0_moveUp_105 : decode cX0_moveUp 105 = .ok (.bastore, 1) := by decide +kernel
theorem dX0_moveUp_106 : decode cX0_moveUp 106 = .ok (.iinc 4 1, 3) := by decide +kernel
theorem dX0_moveUp_109 : decode cX0_moveUp 109 = .ok (.goto (-77), 3) := by decide +kernel
theorem dX0_moveUp_112 : decode cX0_moveUp 112 = .ok (.return_, 1) := by decide +kernel
theorem dX0_settle_0 : decode cX0_settle 0 = .ok (.aload_n 0, 1) := by decide +kernel
theorem dX0_settle_1 : decode cX0_settle 1 = .ok (.aload_n 0, 1) := by decide +kernel
theorem dX0_settle_2 : decode cX0_settle 2 = .ok (.aload_n 0, 1) := by decide +kernel
theorem dX0_settle_3 : decode cX0_settle 3 = .ok (.getfield 32, 3) := by decide +kernel
theorem dX0_settle_6 : decode cX0_settle 6 = .ok (.iconst (-1), 1) := by decide +kernel
theorem dX0_settle_7 : decode cX0_settle 7 = .ok (.invokevirtual 136, 3) := by decide +kernel
theorem dX0_settle_10 : decode cX0_settle 10 = .ok (.putfield 140, 3) := by decide +kernel
theorem dX0_settle_13 : decode cX0_settle 13 = .ok (.aload_n 0, 1) := by decide +kernel
theorem dX0_settle_14 : decode cX0_settle 14 = .ok (.aload_n 0, 1) := by decide +kernel
theorem dX0_settle_15 : decode cX0_settle 15 = .ok (.getfield 35, 3) := by decide +kernel
theorem dX0_settle_18 : decode cX0_settle 18 = .ok (.iconst 0, 1) := by decide +kernel
theorem dX0_settle_19 : decode cX0_settle 19 = .ok (.invokevirtual 184, 3) := by decide +kernel
theorem dX0_settle_22 : decode cX0_settle 22 = .ok (.aload_n 0, 1) := by decide +kernel
theorem dX0_settle_23 : decode cX0_settle 23 = .ok (.aload_n 0, 1) := by decide +kernel
theorem dX0_settle_24 : decode cX0_settle 24 = .ok (.getfield 38, 3) := by decide +kernel
theorem dX0_settle_27 : decode cX0_settle 27 = .ok (.iconst 1, 1) := by decide +kernel
theorem dX0_settle_28 : decode cX0_settle 28 = .ok (.invokevirtual 184, 3) := by decide +kernel
theorem dX0_settle_31 : decode cX0_settle 31 = .ok (.iconst 0, 1) := by decide +kernel
theorem dX0_settle_32 : decode cX0_settle 32 = .ok (.istore_n 1, 1) := by decide +kernel
theorem dX0_settle_33 : decode cX0_settle 33 = .ok (.iload_n 1, 1) := by decide +kernel
theorem dX0_settle_34 : decode cX0_settle 34 = .ok (.aload_n 0, 1) := by decide +kernel
theorem dX0_settle_35 : decode cX0_settle 35 = .ok (.getfield 57, 3) := by decide +kernel
theorem dX0_settle_38 : decode cX0_settle 38 = .ok (.if_icmp .ge 20, 3) := by decide +kernel
theorem dX0_settle_41 : decode cX0_settle 41 = .ok (.aload_n 0, 1) := by decide +kernel
theorem dX0_settle_42 : decode cX0_settle 42 = .ok (.getfield 41, 3) := by decide +kernel
theorem dX0_settle_45 : decode cX0_settle 45 = .ok (.iload_n 1, 1) := by decide +kernel
theorem dX0_settle_46 : decode cX0_settle 46 = .ok (.aload_n 0, 1) := by decide +kernel
theorem dX0_settle_47 : decode cX0_settle 47 = .ok (.iload_n 1, 1) := by decide +kernel
theorem dX0_settle_48 : decode cX0_settle 48 = .ok (.invokevirtual 188, 3) := by decide +kernel
theorem dX0_settle_51 : decode cX0_settle 51 = .ok (.iastore, 1) := by decide +kernel
theorem dX0_settle_52 : decode cX0_settle 52 = .ok (.iinc 1 1, 3) := by decide +kernel
theorem dX0_settle_55 : decode cX0_settle 55 = .ok (.goto (-22), 3) := by decide +kernel
theorem dX0_settle_58 : decode cX0_settle 58 = .ok (.iconst 0, 1) := by decide +kernel
theorem dX0_settle_59 : decode cX0_settle 59 = .ok (.istore_n 1, 1) := by decide +kernel
theorem dX0_settle_60 : decode cX0_settle 60 = .ok (.iload_n 1, 1) := by decide +kernel
theorem dX0_settle_61 : decode cX0_settle 61 = .ok (.aload_n 0, 1) := by decide +kernel
theorem dX0_settle_62 : decode cX0_settle 62 = .ok (.getfield 57, 3) := by decide +kernel
theorem dX0_settle_65 : decode cX0_settle 65 = .ok (.if_icmp .ge 20, 3) := by decide +kernel
theorem dX0_settle_68 : decode cX0_settle 68 = .ok (.aload_n 0, 1) := by decide +kernel
theorem dX0_settle_69 : decode cX0_settle 69 = .ok (.getfield 44, 3) := by decide +kernel
theorem dX0_settle_72 : decode cX0_settle 72 = .ok (.iload_n 1, 1) := by decide +kernel
theorem dX0_settle_73 : decode cX0_settle 73 = .ok (.aload_n 0, 1) := by decide +kernel
theorem dX0_settle_74 : decode cX0_settle 74 = .ok (.iload_n 1, 1) := by decide +kernel
theorem dX0_settle_75 : decode cX0_settle 75 = .ok (.invokevirtual 191, 3) := by decide +kernel
theorem dX0_settle_78 : decode cX0_settle 78 = .ok (.iastore, 1) := by decide +kernel
theorem dX0_settle_79 : decode cX0_settle 79 = .ok (.iinc 1 1, 3) := by decide +kernel
theorem dX0_settle_82 : decode cX0_settle 82 = .ok (.goto (-22), 3) := by decide +kernel
theorem dX0_settle_85 : decode cX0_settle 85 = .ok (.return_, 1) := by decide +kernel
theorem dX0_prove_0 : decode cX0_prove 0 = .ok (.aload_n 1, 1) := by decide +kernel
theorem dX0_prove_1 : decode cX0_prove 1 = .ok (.iconst 0, 1) := by decide +kernel
theorem dX0_prove_2 : decode cX0_prove 2 = .ok (.invokestatic 194, 3) := by decide +kernel
theorem dX0_prove_5 : decode cX0_prove 5 = .ok (.iconst 0, 1) := by decide +kernel
theorem dX0_prove_6 : decode cX0_prove 6 = .ok (.istore_n 3, 1) := by decide +kernel
theorem dX0_prove_7 : decode cX0_prove 7 = .ok (.iconst 1, 1) := by decide +kernel
theorem dX0_prove_8 : decode cX0_prove 8 = .ok (.istore 4, 2) := by decide +kernel
theorem dX0_prove_10 : decode cX0_prove 10 = .ok (.iload 4, 2) := by decide +kernel
theorem dX0_prove_12 : decode cX0_prove 12 = .ok (.aload_n 0, 1) := by decide +kernel
theorem dX0_prove_13 : decode cX0_prove 13 = .ok (.getfield 57, 3) := by decide +kernel
theorem dX0_prove_16 : decode cX0_prove 16 = .ok (.if_icmp .gt 73, 3) := by decide +kernel
theorem dX0_prove_19 : decode cX0_prove 19 = .ok (.iload_n 3, 1) := by decide +kernel
theorem dX0_prove_20 : decode cX0_prove 20 = .ok (.istore 5, 2) := by decide +kernel
theorem dX0_prove_22 : decode cX0_prove 22 = .ok (.iconst 0, 1) := by decide +kernel
theorem dX0_prove_23 : decode cX0_prove 23 = .ok (.istore 6, 2) := by decide +kernel
theorem dX0_prove_25 : decode cX0_prove 25 = .ok (.iload 6, 2) := by decide +kernel
theorem dX0_prove_27 : decode cX0_prove 27 = .ok (.aload_n 0, 1) := by decide +kernel
theorem dX0_prove_28 : decode cX0_prove 28 = .ok (.getfield 57, 3) := by decide +kernel
theorem dX0_prove_31 : decode cX0_prove 31 = .ok (.if_icmp .ge 43, 3) := by decide +kernel
theorem dX0_prove_34 : decode cX0_prove 34 = .ok (.iload 6, 2) := by decide +kernel
theorem dX0_prove_36 : decode cX0_prove 36 = .ok (.iload_n 2, 1) := by decide +kernel
theorem dX0_prove_37 : decode cX0_prove 37 = .ok (.if_icmp .eq 31, 3) := by decide +kernel
theorem dX0_prove_40 : decode cX0_prove 40 = .ok (.aload_n 1, 1) := by decide +kernel
theorem dX0_prove_41 : decode cX0_prove 41 = .ok (.iload 6, 2) := by decide +kernel
theorem dX0_prove_43 : decode cX0_prove 43 = .ok (.iaload, 1) := by decide +kernel
theorem dX0_prove_44 : decode cX0_prove 44 = .ok (.ifCond .ne 24, 3) := by decide +kernel
theorem dX0_prove_47 : decode cX0_prove 47 = .ok (.aload_n 0, 1) := by decide +kernel
theorem dX0_prove_48 : decode cX0_prove 48 = .ok (.iload 6, 2) := by decide +kernel
theorem dX0_prove_50 : decode cX0_prove 50 = .ok (.aload_n 1, 1) := by decide +kernel
theorem dX0_prove_51 : decode cX0_prove 51 = .ok (.iload 4, 2) := by decide +kernel
theorem dX0_prove_53 : decode cX0_prove 53 = .ok (.invokevirtual 200, 3) := by decide +kernel
theorem dX0_prove_56 : decode cX0_prove 56 = .ok (.ifCond .eq 12, 3) := by decide +kernel
theorem dX0_prove_59 : decode cX0_prove 59 = .ok (.aload_n 1, 1) := by decide +kernel
theorem dX0_prove_60 : decode cX0_prove 60 = .ok (.iload 6, 2) := by decide +kernel
theorem dX0_prove_62 : decode cX0_prove 62 = .ok (.iload 4, 2) := by decide +kernel
theorem dX0_prove_64 : decode cX0_prove 64 = .ok (.iastore, 1) := by decide +kernel
theorem dX0_prove_65 : decode cX0_prove 65 = .ok (.iinc 3 1, 3) := by decide +kernel
theorem dX0_prove_68 : decode cX0_prove 68 = .ok (.iinc 6 1, 3) := by decide +kernel
theorem dX0_prove_71 : decode cX0_prove 71 = .ok (.goto (-46), 3) := by decide +kernel
theorem dX0_prove_74 : decode cX0_prove 74 = .ok (.iload_n 3, 1) := by decide +kernel
theorem dX0_prove_75 : decode cX0_prove 75 = .ok (.iload 5, 2) := by decide +kernel
theorem dX0_prove_77 : decode cX0_prove 77 = .ok (.if_icmp .ne 6, 3) := by decide +kernel
theorem dX0_prove_80 : decode cX0_prove 80 = .ok (.goto 9, 3) := by decide +kernel
theorem dX0_prove_83 : decode cX0_prove 83 = .ok (.iinc 4 1, 3) := by decide +kernel
theorem dX0_prove_86 : decode cX0_prove 86 = .ok (.goto (-76), 3) := by decide +kernel
theorem dX0_prove_89 : decode cX0_prove 89 = .ok (.iload_n 3, 1) := by decide +kernel
theorem dX0_prove_90 : decode cX0_prove 90 = .ok (.ireturn, 1) := by decide +kernel
theorem dX0_hasProofAt_0 : decode cX0_hasProofAt 0 = .ok (.iconst 0, 1) := by decide +kernel
theorem dX0_hasProofAt_1 : decode cX0_hasProofAt 1 = .ok (.istore 4, 2) := by decide +kernel
theorem dX0_hasProofAt_3 : decode cX0_hasProofAt 3 = .ok (.iload 4, 2) := by decide +kernel
theorem dX0_hasProofAt_5 : decode cX0_hasProofAt 5 = .ok (.aload_n 0, 1) := by decide +kernel
theorem dX0_hasProofAt_6 : decode cX0_hasProofAt 6 = .ok (.getfield 13, 3) := by decide +kernel
theorem dX0_hasProofAt_9 : decode cX0_hasProofAt 9 = .ok (.iload_n 1, 1) := by decide +kernel
theorem dX0_hasProofAt_10 : decode cX0_hasProofAt 10 = .ok (.iaload, 1) := by decide +kernel
theorem dX0_hasProofAt_11 : decode cX0_hasProofAt 11 = .ok (.if_icmp .ge 26, 3) := by decide +kernel
theorem dX0_hasProofAt_14 : decode cX0_hasProofAt 14 = .ok (.aload_n 0, 1) := by decide +kernel
theorem dX0_hasProofAt_15 : decode cX0_hasProofAt 15 = .ok (.iload_n 1, 1) := by decide +kernel
theorem dX0_hasProofAt_16 : decode cX0_hasProofAt 16 = .ok (.iload 4, 2) := by decide +kernel
theorem dX0_hasProofAt_18 : decode cX0_hasProofAt 18 = .ok (.invokestatic 73, 3) := by decide +kernel
theorem dX0_hasProofAt_21 : decode cX0_hasProofAt 21 = .ok (.aload_n 2, 1) := by decide +kernel
theorem dX0_hasProofAt_22 : decode cX0_hasProofAt 22 = .ok (.iload_n 3, 1) := by decide +kernel
theorem dX0_hasProofAt_23 : decode cX0_hasProofAt 23 = .ok (.invokevirtual 122, 3) := by decide +kernel
theorem dX0_hasProofAt_26 : decode cX0_hasProofAt 26 = .ok (.ifCond .eq 5, 3) := by decide +kernel
theorem dX0_hasProofAt_29 : decode cX0_hasProofAt 29 = .ok (.iconst 1, 1) := by decide +kernel
theorem dX0_hasProofAt_30 : decode cX0_hasProofAt 30 = .ok (.ireturn, 1) := by decide +kernel
theorem dX0_hasProofAt_31 : decode cX0_hasProofAt 31 = .ok (.iinc 4 1, 3) := by decide +kernel
theorem dX0_hasProofAt_34 : decode cX0_hasProofAt 34 = .ok (.goto (-31), 3) := by decide +kernel
theorem dX0_hasProofAt_37 : decode cX0_hasProofAt 37 = .ok (.iconst 0, 1) := by decide +kernel
theorem dX0_hasProofAt_38 : decode cX0_hasProofAt 38 = .ok (.ireturn, 1) := by decide +kernel
theorem dX0_holds_0 : decode cX0_holds 0 = .ok (.aload_n 0, 1) := by decide +kernel
theorem dX0_holds_1 : decode cX0_holds 1 = .ok (.iload_n 1, 1) := by decide +kernel
theorem dX0_holds_2 : decode cX0_holds 2 = .ok (.invokevirtual 203, 3) := by decide +kernel
theorem dX0_holds_5 : decode cX0_holds 5 = .ok (.ifCond .ne 5, 3) := by decide +kernel
theorem dX0_holds_8 : decode cX0_holds 8 = .ok (.iconst 0, 1) := by decide +kernel
theorem dX0_holds_9 : decode cX0_holds 9 = .ok (.ireturn, 1) := by decide +kernel
theorem dX0_holds_10 : decode cX0_holds 10 = .ok (.iload_n 1, 1) := by decide +kernel
theorem dX0_holds_11 : decode cX0_holds 11 = .ok (.invokestatic 181, 3) := by decide +kernel
theorem dX0_holds_14 : decode cX0_holds 14 = .ok (.istore 4, 2) := by decide +kernel
theorem dX0_holds_16 : decode cX0_holds 16 = .ok (.iload 4, 2) := by decide +kernel
theorem dX0_holds_18 : decode cX0_holds 18 = .ok (.aload_n 0, 1) := by decide +kernel
theorem dX0_holds_19 : decode cX0_holds 19 = .ok (.iload_n 1, 1) := by decide +kernel
theorem dX0_holds_20 : decode cX0_holds 20 = .ok (.invokevirtual 86, 3) := by decide +kernel
theorem dX0_holds_23 : decode cX0_holds 23 = .ok (.if_icmp .ge 22, 3) := by decide +kernel
theorem dX0_holds_26 : decode cX0_holds 26 = .ok (.aload_n 0, 1) := by decide +kernel
theorem dX0_holds_27 : decode cX0_holds 27 = .ok (.iload 4, 2) := by decide +kernel
theorem dX0_holds_29 : decode cX0_holds 29 = .ok (.aload_n 2, 1) := by decide +kernel
theorem dX0_holds_30 : decode cX0_holds 30 = .ok (.iload_n 3, 1) := by decide +kernel
theorem dX0_holds_31 : decode cX0_holds 31 = .ok (.invokevirtual 206, 3) := by decide +kernel
theorem dX0_holds_34 : decode cX0_holds 34 = .ok (.ifCond .ne 5, 3) := by decide +kernel
theorem dX0_holds_37 : decode cX0_holds 37 = .ok (.iconst 0, 1) := by decide +kernel
theorem dX0_holds_38 : decode cX0_holds 38 = .ok (.ireturn, 1) := by decide +kernel
theorem dX0_holds_39 : decode cX0_holds 39 = .ok (.iinc 4 1, 3) := by decide +kernel
theorem dX0_holds_42 : decode cX0_holds 42 = .ok (.goto (-26), 3) := by decide +kernel
theorem dX0_holds_45 : decode cX0_holds 45 = .ok (.iconst 1, 1) := by decide +kernel
theorem dX0_holds_46 : decode cX0_holds 46 = .ok (.ireturn, 1) := by decide +kernel
theorem dX0_isWhole_0 : decode cX0_isWhole 0 = .ok (.iload_n 1, 1) := by decide +kernel
theorem dX0_isWhole_1 : decode cX0_isWhole 1 = .ok (.invokestatic 181, 3) := by decide +kernel
theorem dX0_isWhole_4 : decode cX0_isWhole 4 = .ok (.istore_n 2, 1) := by decide +kernel
theorem dX0_isWhole_5 : decode cX0_isWhole 5 = .ok (.iload_n 2, 1) := by decide +kernel
theorem dX0_isWhole_6 : decode cX0_isWhole 6 = .ok (.aload_n 0, 1) := by decide +kernel
theorem dX0_isWhole_7 : decode cX0_isWhole 7 = .ok (.iload_n 1, 1) := by decide +kernel
theorem dX0_isWhole_8 : decode cX0_isWhole 8 = .ok (.invokevirtual 86, 3) := by decide +kernel
theorem dX0_isWhole_11 : decode cX0_isWhole 11 = .ok (.if_icmp .ge 20, 3) := by decide +kernel
theorem dX0_isWhole_14 : decode cX0_isWhole 14 = .ok (.aload_n 0, 1) := by decide +kernel
theorem dX0_isWhole_15 : decode cX0_isWhole 15 = .ok (.getfield 29, 3) := by decide +kernel
theorem dX0_isWhole_18 : decode cX0_isWhole 18 = .ok (.iload_n 2, 1) := by decide +kernel
theorem dX0_isWhole_19 : decode cX0_isWhole 19 = .ok (.baload, 1) := by decide +kernel
theorem dX0_isWhole_20 : decode cX0_isWhole 20 = .ok (.ifCond .eq 5, 3) := by decide +kernel
theorem dX0_isWhole_23 : decode cX0_isWhole 23 = .ok (.iconst 0, 1) := by decide +kernel
theorem dX0_isWhole_24 : decode cX0_isWhole 24 = .ok (.ireturn, 1) := by decide +kernel
theorem dX0_isWhole_25 : decode cX0_isWhole 25 = .ok (.iinc 2 1, 3) := by decide +kernel
theorem dX0_isWhole_28 : decode cX0_isWhole 28 = .ok (.goto (-23), 3) := by decide +kernel
theorem dX0_isWhole_31 : decode cX0_isWhole 31 = .ok (.aload_n 0, 1) := by decide +kernel
theorem dX0_isWhole_32 : decode cX0_isWhole 32 = .ok (.getfield 17, 3) := by decide +kernel
theorem dX0_isWhole_35 : decode cX0_isWhole 35 = .ok (.iload_n 1, 1) := by decide +kernel
theorem dX0_isWhole_36 : decode cX0_isWhole 36 = .ok (.iaload, 1) := by decide +kernel
theorem dX0_isWhole_37 : decode cX0_isWhole 37 = .ok (.ifCond .le 7, 3) := by decide +kernel
theorem dX0_isWhole_40 : decode cX0_isWhole 40 = .ok (.iconst 1, 1) := by decide +kernel
theorem dX0_isWhole_41 : decode cX0_isWhole 41 = .ok (.goto 4, 3) := by decide +kernel
theorem dX0_isWhole_44 : decode cX0_isWhole 44 = .ok (.iconst 0, 1) := by decide +kernel
theorem dX0_isWhole_45 : decode cX0_isWhole 45 = .ok (.ireturn, 1) := by decide +kernel
theorem dX0_stepHolds_0 : decode cX0_stepHolds 0 = .ok (.aload_n 0, 1) := by decide +kernel
theorem dX0_stepHolds_1 : decode cX0_stepHolds 1 = .ok (.getfield 23, 3) := by decide +kernel
theorem dX0_stepHolds_4 : decode cX0_stepHolds 4 = .ok (.iload_n 1, 1) := by decide +kernel
theorem dX0_stepHolds_5 : decode cX0_stepHolds 5 = .ok (.iaload, 1) := by decide +kernel
theorem dX0_stepHolds_6 : decode cX0_stepHolds 6 = .ok (.istore 4, 2) := by decide +kernel
theorem dX0_stepHolds_8 : decode cX0_stepHolds 8 = .ok (.aload_n 0, 1) := by decide +kernel
theorem dX0_stepHolds_9 : decode cX0_stepHolds 9 = .ok (.getfield 20, 3) := by decide +kernel
theorem dX0_stepHolds_12 : decode cX0_stepHolds 12 = .ok (.iload_n 1, 1) := by decide +kernel
theorem dX0_stepHolds_13 : decode cX0_stepHolds 13 = .ok (.iaload, 1) := by decide +kernel
theorem dX0_stepHolds_14 : decode cX0_stepHolds 14 = .ok (.ifCond .ne 27, 3) := by decide +kernel
theorem dX0_stepHolds_17 : decode cX0_stepHolds 17 = .ok (.iload 4, 2) := by decide +kernel
theorem dX0_stepHolds_19 : decode cX0_stepHolds 19 = .ok (.invokestatic 157, 3) := by decide +kernel
theorem dX0_stepHolds_22 : decode cX0_stepHolds 22 = .ok (.ifCond .eq 17, 3) := by decide +kernel
theorem dX0_stepHolds_25 : decode cX0_stepHolds 25 = .ok (.aload_n 0, 1) := by decide +kernel
theorem dX0_stepHolds_26 : decode cX0_stepHolds 26 = .ok (.getfield 9, 3) := by decide +kernel
theorem dX0_stepHolds_29 : decode cX0_stepHolds 29 = .ok (.iload 4, 2) := by decide +kernel
theorem dX0_stepHolds_31 : decode cX0_stepHolds 31 = .ok (.baload, 1) := by decide +kernel
theorem dX0_stepHolds_32 : decode cX0_stepHolds 32 = .ok (.ifCond .eq 7, 3) := by decide +kernel
theorem dX0_stepHolds_35 : decode cX0_stepHolds 35 = .ok (.iconst 1, 1) := by decide +kernel
theorem dX0_stepHolds_36 : decode cX0_stepHolds 36 = .ok (.goto 4, 3) := by decide +kernel
theorem dX0_stepHolds_39 : decode cX0_stepHolds 39 = .ok (.iconst 0, 1) := by decide +kernel
theorem dX0_stepHolds_40 : decode cX0_stepHolds 40 = .ok (.ireturn, 1) := by decide +kernel
theorem dX0_stepHolds_41 : decode cX0_stepHolds 41 = .ok (.aload_n 0, 1) := by decide +kernel
theorem dX0_stepHolds_42 : decode cX0_stepHolds 42 = .ok (.getfield 20, 3) := by decide +kernel
theorem dX0_stepHolds_45 : decode cX0_stepHolds 45 = .ok (.iload_n 1, 1) := by decide +kernel
theorem dX0_stepHolds_46 : decode cX0_stepHolds 46 = .ok (.iaload, 1) := by decide +kernel
theorem dX0_stepHolds_47 : decode cX0_stepHolds 47 = .ok (.iconst 1, 1) := by decide +kernel
theorem dX0_stepHolds_48 : decode cX0_stepHolds 48 = .ok (.if_icmp .ne 33, 3) := by decide +kernel
theorem dX0_stepHolds_51 : decode cX0_stepHolds 51 = .ok (.aload_n 0, 1) := by decide +kernel
theorem dX0_stepHolds_52 : decode cX0_stepHolds 52 = .ok (.iload 4, 2) := by decide +kernel
theorem dX0_stepHolds_54 : decode cX0_stepHolds 54 = .ok (.invokevirtual 166, 3) := by decide +kernel
theorem dX0_stepHolds_57 : decode cX0_stepHolds 57 = .ok (.ifCond .eq 22, 3) := by decide +kernel
theorem dX0_stepHolds_60 : decode cX0_stepHolds 60 = .ok (.aload_n 2, 1) := by decide +kernel
theorem dX0_stepHolds_61 : decode cX0_stepHolds 61 = .ok (.iload 4, 2) := by decide +kernel
theorem dX0_stepHolds_63 : decode cX0_stepHolds 63 = .ok (.iaload, 1) := by decide +kernel
theorem dX0_stepHolds_64 : decode cX0_stepHolds 64 = .ok (.ifCond .le 15, 3) := by decide +kernel
theorem dX0_stepHolds_67 : decode cX0_stepHolds 67 = .ok (.aload_n 2, 1) := by decide +kernel
theorem dX0_stepHolds_68 : decode cX0_stepHolds 68 = .ok (.iload 4, 2) := by decide +kernel
theorem dX0_stepHolds_70 : decode cX0_stepHolds 70 = .ok (.iaload, 1) := by decide +kernel
theorem dX0_stepHolds_71 : decode cX0_stepHolds 71 = .ok (.iload_n 3, 1) := by decide +kernel
theorem dX0_stepHolds_72 : decode cX0_stepHolds 72 = .ok (.if_icmp .ge 7, 3) := by decide +kernel
theorem dX0_stepHolds_75 : decode cX0_stepHolds 75 = .ok (.iconst 1, 1) := by decide +kernel
theorem dX0_stepHolds_76 : decode cX0_stepHolds 76 = .ok (.goto 4, 3) := by decide +kernel
theorem dX0_stepHolds_79 : decode cX0_stepHolds 79 = .ok (.iconst 0, 1) := by decide +kernel
theorem dX0_stepHolds_80 : decode cX0_stepHolds 80 = .ok (.ireturn, 1) := by decide +kernel
theorem dX0_stepHolds_81 : decode cX0_stepHolds 81 = .ok (.aload_n 0, 1) := by decide +kernel
theorem dX0_stepHolds_82 : decode cX0_stepHolds 82 = .ok (.getfield 26, 3) := by decide +kernel
theorem dX0_stepHolds_85 : decode cX0_stepHolds 85 = .ok (.iload_n 1, 1) := by decide +kernel
theorem dX0_stepHolds_86 : decode cX0_stepHolds 86 = .ok (.iaload, 1) := by decide +kernel
theorem dX0_stepHolds_87 : decode cX0_stepHolds 87 = .ok (.ifCond .ne 7, 3) := by decide +kernel
theorem dX0_stepHolds_90 : decode cX0_stepHolds 90 = .ok (.iconst 1, 1) := by decide +kernel
theorem dX0_stepHolds_91 : decode cX0_stepHolds 91 = .ok (.goto 4, 3) := by decide +kernel
theorem dX0_stepHolds_94 : decode cX0_stepHolds 94 = .ok (.iconst 0, 1) := by decide +kernel
theorem dX0_stepHolds_95 : decode cX0_stepHolds 95 = .ok (.ireturn, 1) := by decide +kernel
theorem dX0_reckon_0 : decode cX0_reckon 0 = .ok (.aload_n 1, 1) := by decide +kernel
theorem dX0_reckon_1 : decode cX0_reckon 1 = .ok (.sipush 9999, 3) := by decide +kernel
theorem dX0_reckon_4 : decode cX0_reckon 4 = .ok (.invokestatic 194, 3) := by decide +kernel
theorem dX0_reckon_7 : decode cX0_reckon 7 = .ok (.iconst 0, 1) := by decide +kernel
theorem dX0_reckon_8 : decode cX0_reckon 8 = .ok (.istore_n 3, 1) := by decide +kernel
theorem dX0_reckon_9 : decode cX0_reckon 9 = .ok (.iload_n 3, 1) := by decide +kernel
theorem dX0_reckon_10 : decode cX0_reckon 10 = .ok (.aload_n 0, 1) := by decide +kernel
theorem dX0_reckon_11 : decode cX0_reckon 11 = .ok (.getfield 57, 3) := by decide +kernel
theorem dX0_reckon_14 : decode cX0_reckon 14 = .ok (.if_icmp .ge 21, 3) := by decide +kernel
theorem dX0_reckon_17 : decode cX0_reckon 17 = .ok (.aload_n 0, 1) := by decide +kernel
theorem dX0_reckon_18 : decode cX0_reckon 18 = .ok (.aload_n 1, 1) := by decide +kernel
theorem dX0_reckon_19 : decode cX0_reckon 19 = .ok (.iload_n 2, 1) := by decide +kernel
theorem dX0_reckon_20 : decode cX0_reckon 20 = .ok (.invokevirtual 209, 3) := by decide +kernel
theorem dX0_reckon_23 : decode cX0_reckon 23 = .ok (.ifCond .ne 6, 3) := by decide +kernel
theorem dX0_reckon_26 : decode cX0_reckon 26 = .ok (.goto 9, 3) := by decide +kernel
theorem dX0_reckon_29 : decode cX0_reckon 29 = .ok (.iinc 3 1, 3) := by decide +kernel
theorem dX0_reckon_32 : decode cX0_reckon 32 = .ok (.goto (-23), 3) := by decide +kernel
theorem dX0_reckon_35 : decode cX0_reckon 35 = .ok (.return_, 1) := by decide +kernel
theorem dX0_reckonRound_0 : decode cX0_reckonRound 0 = .ok (.iconst 0, 1) := by decide +kernel
theorem dX0_reckonRound_1 : decode cX0_reckonRound 1 = .ok (.istore_n 3, 1) := by decide +kernel
theorem dX0_reckonRound_2 : decode cX0_reckonRound 2 = .ok (.iconst 0, 1) := by decide +kernel
theorem dX0_reckonRound_3 : decode cX0_reckonRound 3 = .ok (.istore 4, 2) := by decide +kernel
theorem dX0_reckonRound_5 : decode cX0_reckonRound 5 = .ok (.iload 4, 2) := by decide +kernel
theorem dX0_reckonRound_7 : decode cX0_reckonRound 7 = .ok (.aload_n 0, 1) := by decide +kernel
theorem dX0_reckonRound_8 : decode cX0_reckonRound 8 = .ok (.getfield 57, 3) := by decide +kernel
theorem dX0_reckonRound_11 : decode cX0_reckonRound 11 = .ok (.if_icmp .ge 62, 3) := by decide +kernel
theorem dX0_reckonRound_14 : decode cX0_reckonRound 14 = .ok (.iconst 0, 1) := by decide +kernel
theorem dX0_reckonRound_15 : decode cX0_reckonRound 15 = .ok (.istore 5, 2) := by decide +kernel
theorem dX0_reckonRound_17 : decode cX0_reckonRound 17 = .ok (.iload 5, 2) := by decide +kernel
theorem dX0_reckonRound_19 : decode cX0_reckonRound 19 = .ok (.aload_n 0, 1) := by decide +kernel
theorem dX0_reckonRound_20 : decode cX0_reckonRound 20 = .ok (.getfield 13, 3) := by decide +kernel
theorem dX0_reckonRound_23 : decode cX0_reckonRound 23 = .ok (.iload 4, 2) := by decide +kernel
theorem dX0_reckonRound_25 : decode cX0_reckonRound 25 = .ok (.iaload, 1) := by decide +kernel
theorem dX0_reckonRound_26 : decode cX0_reckonRound 26 = .ok (.if_icmp .ge 41, 3) := by decide +kernel
theorem dX0_reckonRound_29 : decode cX0_reckonRound 29 = .ok (.aload_n 0, 1) := by decide +kernel
theorem dX0_reckonRound_30 : decode cX0_reckonRound 30 = .ok (.iload 4, 2) := by decide +kernel
theorem dX0_reckonRound_32 : decode cX0_reckonRound 32 = .ok (.iload 5, 2) := by decide +kernel
theorem dX0_reckonRound_34 : decode cX0_reckonRound 34 = .ok (.invokestatic 73, 3) := by decide +kernel
theorem dX0_reckonRound_37 : decode cX0_reckonRound 37 = .ok (.aload_n 1, 1) := by decide +kernel
theorem dX0_reckonRound_38 : decode cX0_reckonRound 38 = .ok (.iload_n 2, 1) := by decide +kernel
theorem dX0_reckonRound_39 : decode cX0_reckonRound 39 = .ok (.invokevirtual 126, 3) := by decide +kernel
theorem dX0_reckonRound_42 : decode cX0_reckonRound 42 = .ok (.istore 6, 2) := by decide +kernel
theorem dX0_reckonRound_44 : decode cX0_reckonRound 44 = .ok (.iload 6, 2) := by decide +kernel
theorem dX0_reckonRound_46 : decode cX0_reckonRound 46 = .ok (.aload_n 1, 1) := by decide +kernel
theorem dX0_reckonRound_47 : decode cX0_reckonRound 47 = .ok (.iload 4, 2) := by decide +kernel
theorem dX0_reckonRound_49 : decode cX0_reckonRound 49 = .ok (.iaload, 1) := by decide +kernel
theorem dX0_reckonRound_50 : decode cX0_reckonRound 50 = .ok (.if_icmp .ge 11, 3) := by decide +kernel
theorem dX0_reckonRound_53 : decode cX0_reckonRound 53 = .ok (.aload_n 1, 1) := by decide +kernel
theorem dX0_reckonRound_54 : decode cX0_reckonRound 54 = .ok (.iload 4, 2) := by decide +kernel
theorem dX0_reckonRound_56 : decode cX0_reckonRound 56 = .ok (.iload 6, 2) := by decide +kernel
theorem dX0_reckonRound_58 : decode cX0_reckonRound 58 = .ok (.iastore, 1) := by decide +kernel
theorem dX0_reckonRound_59 : decode cX0_reckonRound 59 = .ok (.iconst 1, 1) := by decide +kernel
theorem dX0_reckonRound_60 : decode cX0_reckonRound 60 = .ok (.istore_n 3, 1) := by decide +kernel
theorem dX0_reckonRound_61 : decode cX0_reckonRound 61 = .ok (.iinc 5 1, 3) := by decide +kernel
theorem dX0_reckonRound_64 : decode cX0_reckonRound 64 = .ok (.goto (-47), 3) := by decide +kernel
theorem dX0_reckonRound_67 : decode cX0_reckonRound 67 = .ok (.iinc 4 1, 3) := by decide +kernel
theorem dX0_reckonRound_70 : decode cX0_reckonRound 70 = .ok (.goto (-65), 3) := by decide +kernel
theorem dX0_reckonRound_73 : decode cX0_reckonRound 73 = .ok (.iload_n 3, 1) := by decide +kernel
theorem dX0_reckonRound_74 : decode cX0_reckonRound 74 = .ok (.ireturn, 1) := by decide +kernel
theorem dX0_costOfProof_0 : decode cX0_costOfProof 0 = .ok (.aload_n 0, 1) := by decide +kernel
theorem dX0_costOfProof_1 : decode cX0_costOfProof 1 = .ok (.iload_n 1, 1) := by decide +kernel
theorem dX0_costOfProof_2 : decode cX0_costOfProof 2 = .ok (.invokevirtual 203, 3) := by decide +kernel
theorem dX0_costOfProof_5 : decode cX0_costOfProof 5 = .ok (.ifCond .ne 7, 3) := by decide +kernel
theorem dX0_costOfProof_8 : decode cX0_costOfProof 8 = .ok (.sipush 9999, 3) := by decide +kernel
theorem dX0_costOfProof_11 : decode cX0_costOfProof 11 = .ok (.ireturn, 1) := by decide +kernel
theorem dX0_costOfProof_12 : decode cX0_costOfProof 12 = .ok (.iload_n 3, 1) := by decide +kernel
theorem dX0_costOfProof_13 : decode cX0_costOfProof 13 = .ok (.ifCond .eq 7, 3) := by decide +kernel
theorem dX0_costOfProof_16 : decode cX0_costOfProof 16 = .ok (.iconst 0, 1) := by decide +kernel
theorem dX0_costOfProof_17 : decode cX0_costOfProof 17 = .ok (.goto 9, 3) := by decide +kernel
theorem dX0_costOfProof_20 : decode cX0_costOfProof 20 = .ok (.aload_n 0, 1) := by decide +kernel
theorem dX0_costOfProof_21 : decode cX0_costOfProof 21 = .ok (.getfield 17, 3) := by decide +kernel
theorem dX0_costOfProof_24 : decode cX0_costOfProof 24 = .ok (.iload_n 1, 1) := by decide +kernel
theorem dX0_costOfProof_25 : decode cX0_costOfProof 25 = .ok (.iaload, 1) := by decide +kernel
theorem dX0_costOfProof_26 : decode cX0_costOfProof 26 = .ok (.istore 4, 2) := by decide +kernel
theorem dX0_costOfProof_28 : decode cX0_costOfProof 28 = .ok (.iload_n 1, 1) := by decide +kernel
theorem dX0_costOfProof_29 : decode cX0_costOfProof 29 = .ok (.invokestatic 181, 3) := by decide +kernel
theorem dX0_costOfProof_32 : decode cX0_costOfProof 32 = .ok (.istore 5, 2) := by decide +kernel
theorem dX0_costOfProof_34 : decode cX0_costOfProof 34 = .ok (.iload 5, 2) := by decide +kernel
theorem dX0_costOfProof_36 : decode cX0_costOfProof 36 = .ok (.aload_n 0, 1) := by decide +kernel
theorem dX0_costOfProof_37 : decode cX0_costOfProof 37 = .ok (.iload_n 1, 1) := by decide +kernel
theorem dX0_costOfProof_38 : decode cX0_costOfProof 38 = .ok (.invokevirtual 86, 3) := by decide +kernel
theorem dX0_costOfProof_41 : decode cX0_costOfProof 41 = .ok (.if_icmp .ge 22, 3) := by decide +kernel
theorem dX0_costOfProof_44 : decode cX0_costOfProof 44 = .ok (.iload 4, 2) := by decide +kernel
theorem dX0_costOfProof_46 : decode cX0_costOfProof 46 = .ok (.aload_n 0, 1) := by decide +kernel
theorem dX0_costOfProof_47 : decode cX0_costOfProof 47 = .ok (.iload 5, 2) := by decide +kernel
theorem dX0_costOfProof_49 : decode cX0_costOfProof 49 = .ok (.aload_n 2, 1) := by decide +kernel
theorem dX0_costOfProof_50 : decode cX0_costOfProof 50 = .ok (.iload_n 3, 1) := by decide +kernel
theorem dX0_costOfProof_51 : decode cX0_costOfProof 51 = .ok (.invokevirtual 213, 3) := by decide +kernel
theorem dX0_costOfProof_54 : decode cX0_costOfProof 54 = .ok (.iadd, 1) := by decide +kernel
theorem dX0_costOfProof_55 : decode cX0_costOfProof 55 = .ok (.istore 4, 2) := by decide +kernel
theorem dX0_costOfProof_57 : decode cX0_costOfProof 57 = .ok (.iinc 5 1, 3) := by decide +kernel
theorem dX0_costOfProof_60 : decode cX0_costOfProof 60 = .ok (.goto (-26), 3) := by decide +kernel
theorem dX0_costOfProof_63 : decode cX0_costOfProof 63 = .ok (.iload 4, 2) := by decide +kernel
theorem dX0_costOfProof_65 : decode cX0_costOfProof 65 = .ok (.sipush 9999, 3) := by decide +kernel
theorem dX0_costOfProof_68 : decode cX0_costOfProof 68 = .ok (.invokestatic 216, 3) := by decide +kernel
theorem dX0_costOfProof_71 : decode cX0_costOfProof 71 = .ok (.ireturn, 1) := by decide +kernel
theorem dX0_costOfStep_0 : decode cX0_costOfStep 0 = .ok (.aload_n 0, 1) := by decide +kernel
theorem dX0_costOfStep_1 : decode cX0_costOfStep 1 = .ok (.getfield 23, 3) := by decide +kernel
theorem dX0_costOfStep_4 : decode cX0_costOfStep 4 = .ok (.iload_n 1, 1) := by decide +kernel
theorem dX0_costOfStep_5 : decode cX0_costOfStep 5 = .ok (.iaload, 1) := by decide +kernel
theorem dX0_costOfStep_6 : decode cX0_costOfStep 6 = .ok (.istore 4, 2) := by decide +kernel
theorem dX0_costOfStep_8 : decode cX0_costOfStep 8 = .ok (.aload_n 0, 1) := by decide +kernel
theorem dX0_costOfStep_9 : decode cX0_costOfStep 9 = .ok (.getfield 20, 3) := by decide +kernel
theorem dX0_costOfStep_12 : decode cX0_costOfStep 12 = .ok (.iload_n 1, 1) := by decide +kernel
theorem dX0_costOfStep_13 : decode cX0_costOfStep 13 = .ok (.iaload, 1) := by decide +kernel
theorem dX0_costOfStep_14 : decode cX0_costOfStep 14 = .ok (.ifCond .ne 29, 3) := by decide +kernel
theorem dX0_costOfStep_17 : decode cX0_costOfStep 17 = .ok (.iload 4, 2) := by decide +kernel
theorem dX0_costOfStep_19 : decode cX0_costOfStep 19 = .ok (.invokestatic 157, 3) := by decide +kernel
theorem dX0_costOfStep_22 : decode cX0_costOfStep 22 = .ok (.ifCond .eq 17, 3) := by decide +kernel
theorem dX0_costOfStep_25 : decode cX0_costOfStep 25 = .ok (.aload_n 0, 1) := by decide +kernel
theorem dX0_costOfStep_26 : decode cX0_costOfStep 26 = .ok (.getfield 9, 3) := by decide +kernel
theorem dX0_costOfStep_29 : decode cX0_costOfStep 29 = .ok (.iload 4, 2) := by decide +kernel
theorem dX0_costOfStep_31 : decode cX0_costOfStep 31 = .ok (.baload, 1) := by decide +kernel
theorem dX0_costOfStep_32 : decode cX0_costOfStep 32 = .ok (.ifCond .eq 7, 3) := by decide +kernel
theorem dX0_costOfStep_35 : decode cX0_costOfStep 35 = .ok (.iconst 0, 1) := by decide +kernel
theorem dX0_costOfStep_36 : decode cX0_costOfStep 36 = .ok (.goto 6, 3) := by decide +kernel
theorem dX0_costOfStep_39 : decode cX0_costOfStep 39 = .ok (.sipush 9999, 3) := by decide +kernel
theorem dX0_costOfStep_42 : decode cX0_costOfStep 42 = .ok (.ireturn, 1) := by decide +kernel
theorem dX0_costOfStep_43 : decode cX0_costOfStep 43 = .ok (.aload_n 0, 1) := by decide +kernel
theorem dX0_costOfStep_44 : decode cX0_costOfStep 44 = .ok (.getfield 20, 3) := by decide +kernel
theorem dX0_costOfStep_47 : decode cX0_costOfStep 47 = .ok (.iload_n 1, 1) := by decide +kernel
theorem dX0_costOfStep_48 : decode cX0_costOfStep 48 = .ok (.iaload, 1) := by decide +kernel
theorem dX0_costOfStep_49 : decode cX0_costOfStep 49 = .ok (.iconst 1, 1) := by decide +kernel
theorem dX0_costOfStep_50 : decode cX0_costOfStep 50 = .ok (.if_icmp .ne 23, 3) := by decide +kernel
theorem dX0_costOfStep_53 : decode cX0_costOfStep 53 = .ok (.aload_n 0, 1) := by decide +kernel
theorem dX0_costOfStep_54 : decode cX0_costOfStep 54 = .ok (.iload 4, 2) := by decide +kernel
theorem dX0_costOfStep_56 : decode cX0_costOfStep 56 = .ok (.invokevirtual 166, 3) := by decide +kernel
theorem dX0_costOfStep_59 : decode cX0_costOfStep 59 = .ok (.ifCond .eq 10, 3) := by decide +kernel
theorem dX0_costOfStep_62 : decode cX0_costOfStep 62 = .ok (.aload_n 2, 1) := by decide +kernel
theorem dX0_costOfStep_63 : decode cX0_costOfStep 63 = .ok (.iload 4, 2) := by decide +kernel
theorem dX0_costOfStep_65 : decode cX0_costOfStep 65 = .ok (.iaload, 1) := by decide +kernel
theorem dX0_costOfStep_66 : decode cX0_costOfStep 66 = .ok (.goto 6, 3) := by decide +kernel
theorem dX0_costOfStep_69 : decode cX0_costOfStep 69 = .ok (.sipush 9999, 3) := by decide +kernel
theorem dX0_costOfStep_72 : decode cX0_costOfStep 72 = .ok (.ireturn, 1) := by decide +kernel
theorem dX0_costOfStep_73 : decode cX0_costOfStep 73 = .ok (.iload_n 3, 1) := by decide +kernel
theorem dX0_costOfStep_74 : decode cX0_costOfStep 74 = .ok (.ifCond .eq 10, 3) := by decide +kernel
theorem dX0_costOfStep_77 : decode cX0_costOfStep 77 = .ok (.aload_n 0, 1) := by decide +kernel
theorem dX0_costOfStep_78 : decode cX0_costOfStep 78 = .ok (.getfield 26, 3) := by decide +kernel
theorem dX0_costOfStep_81 : decode cX0_costOfStep 81 = .ok (.iload_n 1, 1) := by decide +kernel
theorem dX0_costOfStep_82 : decode cX0_costOfStep 82 = .ok (.iaload, 1) := by decide +kernel
theorem dX0_costOfStep_83 : decode cX0_costOfStep 83 = .ok (.ireturn, 1) := by decide +kernel
theorem dX0_costOfStep_84 : decode cX0_costOfStep 84 = .ok (.aload_n 0, 1) := by decide +kernel
theorem dX0_costOfStep_85 : decode cX0_costOfStep 85 = .ok (.getfield 26, 3) := by decide +kernel
theorem dX0_costOfStep_88 : decode cX0_costOfStep 88 = .ok (.iload_n 1, 1) := by decide +kernel
theorem dX0_costOfStep_89 : decode cX0_costOfStep 89 = .ok (.iaload, 1) := by decide +kernel
theorem dX0_costOfStep_90 : decode cX0_costOfStep 90 = .ok (.ifCond .ne 7, 3) := by decide +kernel
theorem dX0_costOfStep_93 : decode cX0_costOfStep 93 = .ok (.iconst 0, 1) := by decide +kernel
theorem dX0_costOfStep_94 : decode cX0_costOfStep 94 = .ok (.goto 6, 3) := by decide +kernel
theorem dX0_costOfStep_97 : decode cX0_costOfStep 97 = .ok (.sipush 9999, 3) := by decide +kernel
theorem dX0_costOfStep_100 : decode cX0_costOfStep 100 = .ok (.ireturn, 1) := by decide +kernel
theorem dX0_orNone_0 : decode cX0_orNone 0 = .ok (.iload_n 0, 1) := by decide +kernel
theorem dX0_orNone_1 : decode cX0_orNone 1 = .ok (.sipush 9999, 3) := by decide +kernel
theorem dX0_orNone_4 : decode cX0_orNone 4 = .ok (.if_icmp .lt 7, 3) := by decide +kernel
theorem dX0_orNone_7 : decode cX0_orNone 7 = .ok (.iconst (-1), 1) := by decide +kernel
theorem dX0_orNone_8 : decode cX0_orNone 8 = .ok (.goto 4, 3) := by decide +kernel
theorem dX0_orNone_11 : decode cX0_orNone 11 = .ok (.iload_n 0, 1) := by decide +kernel
theorem dX0_orNone_12 : decode cX0_orNone 12 = .ok (.ireturn, 1) := by decide +kernel
theorem dX0_lemmasCitedBy_0 : decode cX0_lemmasCitedBy 0 = .ok (.iconst 0, 1) := by decide +kernel
theorem dX0_lemmasCitedBy_1 : decode cX0_lemmasCitedBy 1 = .ok (.istore_n 2, 1) := by decide +kernel
theorem dX0_lemmasCitedBy_2 : decode cX0_lemmasCitedBy 2 = .ok (.iconst 0, 1) := by decide +kernel
theorem dX0_lemmasCitedBy_3 : decode cX0_lemmasCitedBy 3 = .ok (.istore_n 3, 1) := by decide +kernel
theorem dX0_lemmasCitedBy_4 : decode cX0_lemmasCitedBy 4 = .ok (.iload_n 3, 1) := by decide +kernel
theorem dX0_lemmasCitedBy_5 : decode cX0_lemmasCitedBy 5 = .ok (.aload_n 0, 1) := by decide +kernel
theorem dX0_lemmasCitedBy_6 : decode cX0_lemmasCitedBy 6 = .ok (.getfield 13, 3) := by decide +kernel
theorem dX0_lemmasCitedBy_9 : decode cX0_lemmasCitedBy 9 = .ok (.iload_n 1, 1) := by decide +kernel
theorem dX0_lemmasCitedBy_10 : decode cX0_lemmasCitedBy 10 = .ok (.iaload, 1) := by decide +kernel
theorem dX0_lemmasCitedBy_11 : decode cX0_lemmasCitedBy 11 = .ok (.if_icmp .ge 63, 3) := by decide +kernel
theorem dX0_lemmasCitedBy_14 : decode cX0_lemmasCitedBy 14 = .ok (.iload_n 1, 1) := by decide +kernel
theorem dX0_lemmasCitedBy_15 : decode cX0_lemmasCitedBy 15 = .ok (.iload_n 3, 1) := by decide +kernel
theorem dX0_lemmasCitedBy_16 : decode cX0_lemmasCitedBy 16 = .ok (.invokestatic 73, 3) := by decide +kernel
theorem dX0_lemmasCitedBy_19 : decode cX0_lemmasCitedBy 19 = .ok (.istore 4, 2) := by decide +kernel
theorem dX0_lemmasCitedBy_21 : decode cX0_lemmasCitedBy 21 = .ok (.iload 4, 2) := by decide +kernel
theorem dX0_lemmasCitedBy_23 : decode cX0_lemmasCitedBy 23 = .ok (.invokestatic 181, 3) := by decide +kernel
theorem dX0_lemmasCitedBy_26 : decode cX0_lemmasCitedBy 26 = .ok (.istore 5, 2) := by decide +kernel
theorem dX0_lemmasCitedBy_28 : decode cX0_lemmasCitedBy 28 = .ok (.iload 5, 2) := by decide +kernel
theorem dX0_lemmasCitedBy_30 : decode cX0_lemmasCitedBy 30 = .ok (.aload_n 0, 1) := by decide +kernel
theorem dX0_lemmasCitedBy_31 : decode cX0_lemmasCitedBy 31 = .ok (.iload 4, 2) := by decide +kernel
theorem dX0_lemmasCitedBy_33 : decode cX0_lemmasCitedBy 33 = .ok (.invokevirtual 86, 3) := by decide +kernel
theorem dX0_lemmasCitedBy_36 : decode cX0_lemmasCitedBy 36 = .ok (.if_icmp .ge 32, 3) := by decide +kernel
theorem dX0_lemmasCitedBy_39 : decode cX0_lemmasCitedBy 39 = .ok (.aload_n 0, 1) := by decide +kernel
theorem dX0_lemmasCitedBy_40 : decode cX0_lemmasCitedBy 40 = .ok (.getfield 20, 3) := by decide +kernel
theorem dX0_lemmasCitedBy_43 : decode cX0_lemmasCitedBy 43 = .ok (.iload 5, 2) := by decide +kernel
theorem dX0_lemmasCitedBy_45 : decode cX0_lemmasCitedBy 45 = .ok (.iaload, 1) := by decide +kernel
theorem dX0_lemmasCitedBy_46 : decode cX0_lemmasCitedBy 46 = .ok (.iconst 1, 1) := by decide +kernel
theorem dX0_lemmasCitedBy_47 : decode cX0_lemmasCitedBy 47 = .ok (.if_icmp .ne 15, 3) := by decide +kernel
theorem dX0_lemmasCitedBy_50 : decode cX0_lemmasCitedBy 50 = .ok (.iload_n 2, 1) := by decide +kernel
theorem dX0_lemmasCitedBy_51 : decode cX0_lemmasCitedBy 51 = .ok (.iconst 1, 1) := by decide +kernel
theorem dX0_lemmasCitedBy_52 : decode cX0_lemmasCitedBy 52 = .ok (.aload_n 0, 1) := by decide +kernel
theorem dX0_lemmasCitedBy_53 : decode cX0_lemmasCitedBy 53 = .ok (.getfield 23, 3) := by decide +kernel
theorem dX0_lemmasCitedBy_56 : decode cX0_lemmasCitedBy 56 = .ok (.iload 5, 2) := by decide +kernel
theorem dX0_lemmasCitedBy_58 : decode cX0_lemmasCitedBy 58 = .ok (.iaload, 1) := by decide +kernel
theorem dX0_lemmasCitedBy_59 : decode cX0_lemmasCitedBy 59 = .ok (.ishl, 1) := by decide +kernel
theorem dX0_lemmasCitedBy_60 : decode cX0_lemmasCitedBy 60 = .ok (.ior, 1) := by decide +kernel
theorem dX0_lemmasCitedBy_61 : decode cX0_lemmasCitedBy 61 = .ok (.istore_n 2, 1) := by decide +kernel
theorem dX0_lemmasCitedBy_62 : decode cX0_lemmasCitedBy 62 = .ok (.iinc 5 1, 3) := by decide +kernel
theorem dX0_lemmasCitedBy_65 : decode cX0_lemmasCitedBy 65 = .ok (.goto (-37), 3) := by decide +kernel
theorem dX0_lemmasCitedBy_68 : decode cX0_lemmasCitedBy 68 = .ok (.iinc 3 1, 3) := by decide +kernel
theorem dX0_lemmasCitedBy_71 : decode cX0_lemmasCitedBy 71 = .ok (.goto (-67), 3) := by decide +kernel
theorem dX0_lemmasCitedBy_74 : decode cX0_lemmasCitedBy 74 = .ok (.iload_n 2, 1) := by decide +kernel
theorem dX0_lemmasCitedBy_75 : decode cX0_lemmasCitedBy 75 = .ok (.ireturn, 1) := by decide +kernel
theorem dX0_lemmasCitedByAll_0 : decode cX0_lemmasCitedByAll 0 = .ok (.iconst 0, 1) := by decide +kernel
theorem dX0_lemmasCitedByAll_1 : decode cX0_lemmasCitedByAll 1 = .ok (.istore_n 2, 1) := by decide +kernel
theorem dX0_lemmasCitedByAll_2 : decode cX0_lemmasCitedByAll 2 = .ok (.iconst 0, 1) := by decide +kernel
theorem dX0_lemmasCitedByAll_3 : decode cX0_lemmasCitedByAll 3 = .ok (.istore_n 3, 1) := by decide +kernel
theorem dX0_lemmasCitedByAll_4 : decode cX0_lemmasCitedByAll 4 = .ok (.iload_n 3, 1) := by decide +kernel
theorem dX0_lemmasCitedByAll_5 : decode cX0_lemmasCitedByAll 5 = .ok (.aload_n 0, 1) := by decide +kernel
theorem dX0_lemmasCitedByAll_6 : decode cX0_lemmasCitedByAll 6 = .ok (.getfield 57, 3) := by decide +kernel
theorem dX0_lemmasCitedByAll_9 : decode cX0_lemmasCitedByAll 9 = .ok (.if_icmp .ge 26, 3) := by decide +kernel
theorem dX0_lemmasCitedByAll_12 : decode cX0_lemmasCitedByAll 12 = .ok (.iload_n 3, 1) := by decide +kernel
theorem dX0_lemmasCitedByAll_13 : decode cX0_lemmasCitedByAll 13 = .ok (.iload_n 1, 1) := by decide +kernel
theorem dX0_lemmasCitedByAll_14 : decode cX0_lemmasCitedByAll 14 = .ok (.invokestatic 219, 3) := by decide +kernel
theorem dX0_lemmasCitedByAll_17 : decode cX0_lemmasCitedByAll 17 = .ok (.ifCond .eq 12, 3) := by decide +kernel
theorem dX0_lemmasCitedByAll_20 : decode cX0_lemmasCitedByAll 20 = .ok (.iload_n 2, 1) := by decide +kernel
theorem dX0_lemmasCitedByAll_21 : decode cX0_lemmasCitedByAll 21 = .ok (.aload_n 0, 1) := by decide +kernel
theorem dX0_lemmasCitedByAll_22 : decode cX0_lemmasCitedByAll 22 = .ok (.getfield 41, 3) := by decide +kernel
theorem dX0_lemmasCitedByAll_25 : decode cX0_lemmasCitedByAll 25 = .ok (.iload_n 3, 1) := by decide +kernel
theorem dX0_lemmasCitedByAll_26 : decode cX0_lemmasCitedByAll 26 = .ok (.iaload, 1) := by decide +kernel
theorem dX0_lemmasCitedByAll_27 : decode cX0_lemmasCitedByAll 27 = .ok (.ior, 1) := by decide +kernel
theorem dX0_lemmasCitedByAll_28 : decode cX0_lemmasCitedByAll 28 = .ok (.istore_n 2, 1) := by decide +kernel
theorem dX0_lemmasCitedByAll_29 : decode cX0_lemmasCitedByAll 29 = .ok (.iinc 3 1, 3) := by decide +kernel
theorem dX0_lemmasCitedByAll_32 : decode cX0_lemmasCitedByAll 32 = .ok (.goto (-28), 3) := by decide +kernel
theorem dX0_lemmasCitedByAll_35 : decode cX0_lemmasCitedByAll 35 = .ok (.iload_n 2, 1) := by decide +kernel
theorem dX0_lemmasCitedByAll_36 : decode cX0_lemmasCitedByAll 36 = .ok (.ireturn, 1) := by decide +kernel
theorem dX0_isIn_0 : decode cX0_isIn 0 = .ok (.iload_n 1, 1) := by decide +kernel
theorem dX0_isIn_1 : decode cX0_isIn 1 = .ok (.iconst 1, 1) := by decide +kernel
theorem dX0_isIn_2 : decode cX0_isIn 2 = .ok (.iload_n 0, 1) := by decide +kernel
theorem dX0_isIn_3 : decode cX0_isIn 3 = .ok (.ishl, 1) := by decide +kernel
theorem dX0_isIn_4 : decode cX0_isIn 4 = .ok (.iand, 1) := by decide +kernel
theorem dX0_isIn_5 : decode cX0_isIn 5 = .ok (.ifCond .eq 7, 3) := by decide +kernel
theorem dX0_isIn_8 : decode cX0_isIn 8 = .ok (.iconst 1, 1) := by decide +kernel
theorem dX0_isIn_9 : decode cX0_isIn 9 = .ok (.goto 4, 3) := by decide +kernel
theorem dX0_isIn_12 : decode cX0_isIn 12 = .ok (.iconst 0, 1) := by decide +kernel
theorem dX0_isIn_13 : decode cX0_isIn 13 = .ok (.ireturn, 1) := by decide +kernel
theorem dX0_citesToItself_0 : decode cX0_citesToItself 0 = .ok (.aload_n 0, 1) := by decide +kernel
theorem dX0_citesToItself_1 : decode cX0_citesToItself 1 = .ok (.getfield 41, 3) := by decide +kernel
theorem dX0_citesToItself_4 : decode cX0_citesToItself 4 = .ok (.iload_n 1, 1) := by decide +kernel
theorem dX0_citesToItself_5 : decode cX0_citesToItself 5 = .ok (.iaload, 1) := by decide +kernel
theorem dX0_citesToItself_6 : decode cX0_citesToItself 6 = .ok (.istore_n 2, 1) := by decide +kernel
theorem dX0_citesToItself_7 : decode cX0_citesToItself 7 = .ok (.iconst 1, 1) := by decide +kernel
theorem dX0_citesToItself_8 : decode cX0_citesToItself 8 = .ok (.istore_n 3, 1) := by decide +kernel
theorem dX0_citesToItself_9 : decode cX0_citesToItself 9 = .ok (.iload_n 3, 1) := by decide +kernel
theorem dX0_citesToItself_10 : decode cX0_citesToItself 10 = .ok (.aload_n 0, 1) := by decide +kernel
theorem dX0_citesToItself_11 : decode cX0_citesToItself 11 = .ok (.getfield 57, 3) := by decide +kernel
theorem dX0_citesToItself_14 : decode cX0_citesToItself 14 = .ok (.if_icmp .gt 25, 3) := by decide +kernel
theorem dX0_citesToItself_17 : decode cX0_citesToItself 17 = .ok (.iload_n 1, 1) := by decide +kernel
theorem dX0_citesToItself_18 : decode cX0_citesToItself 18 = .ok (.iload_n 2, 1) := by decide +kernel
theorem dX0_citesToItself_19 : decode cX0_citesToItself 19 = .ok (.invokestatic 219, 3) := by decide +kernel
theorem dX0_citesToItself_22 : decode cX0_citesToItself 22 = .ok (.ifCond .eq 5, 3) := by decide +kernel
theorem dX0_citesToItself_25 : decode cX0_citesToItself 25 = .ok (.iload_n 3, 1) := by decide +kernel
theorem dX0_citesToItself_26 : decode cX0_citesToItself 26 = .ok (.ireturn, 1) := by decide +kernel
theorem dX0_citesToItself_27 : decode cX0_citesToItself 27 = .ok (.aload_n 0, 1) := by decide +kernel
theorem dX0_citesToItself_28 : decode cX0_citesToItself 28 = .ok (.iload_n 2, 1) := by decide +kernel
theorem dX0_citesToItself_29 : decode cX0_citesToItself 29 = .ok (.invokevirtual 223, 3) := by decide +kernel
theorem dX0_citesToItself_32 : decode cX0_citesToItself 32 = .ok (.istore_n 2, 1) := by decide +kernel
theorem dX0_citesToItself_33 : decode cX0_citesToItself 33 = .ok (.iinc 3 1, 3) := by decide +kernel
theorem dX0_citesToItself_36 : decode cX0_citesToItself 36 = .ok (.goto (-27), 3) := by decide +kernel
theorem dX0_citesToItself_39 : decode cX0_citesToItself 39 = .ok (.iconst 0, 1) := by decide +kernel
theorem dX0_citesToItself_40 : decode cX0_citesToItself 40 = .ok (.ireturn, 1) := by decide +kernel
theorem dX0_lemmaTells_0 : decode cX0_lemmaTells 0 = .ok (.iload_n 2, 1) := by decide +kernel
theorem dX0_lemmaTells_1 : decode cX0_lemmaTells 1 = .ok (.tableswitch 85 0 5 #[39, 46, 52, 59, 69, 79], 39) := by decide +kernel
theorem dX0_lemmaTells_40 : decode cX0_lemmaTells 40 = .ok (.aload_n 0, 1) := by decide +kernel
theorem dX0_lemmaTells_41 : decode cX0_lemmaTells 41 = .ok (.getfield 13, 3) := by decide +kernel
theorem dX0_lemmaTells_44 : decode cX0_lemmaTells 44 = .ok (.iload_n 1, 1) := by decide +kernel
theorem dX0_lemmaTells_45 : decode cX0_lemmaTells 45 = .ok (.iaload, 1) := by decide +kernel
theorem dX0_lemmaTells_46 : decode cX0_lemmaTells 46 = .ok (.ireturn, 1) := by decide +kernel
theorem dX0_lemmaTells_47 : decode cX0_lemmaTells 47 = .ok (.aload_n 0, 1) := by decide +kernel
theorem dX0_lemmaTells_48 : decode cX0_lemmaTells 48 = .ok (.iload_n 1, 1) := by decide +kernel
theorem dX0_lemmaTells_49 : decode cX0_lemmaTells 49 = .ok (.invokevirtual 226, 3) := by decide +kernel
theorem dX0_lemmaTells_52 : decode cX0_lemmaTells 52 = .ok (.ireturn, 1) := by decide +kernel
theorem dX0_lemmaTells_53 : decode cX0_lemmaTells 53 = .ok (.aload_n 0, 1) := by decide +kernel
theorem dX0_lemmaTells_54 : decode cX0_lemmaTells 54 = .ok (.getfield 32, 3) := by decide +kernel
theorem dX0_lemmaTells_57 : decode cX0_lemmaTells 57 = .ok (.iload_n 1, 1) := by decide +kernel
theorem dX0_lemmaTells_58 : decode cX0_lemmaTells 58 = .ok (.iaload, 1) := by decide +kernel
theorem dX0_lemmaTells_59 : decode cX0_lemmaTells 59 = .ok (.ireturn, 1) := by decide +kernel
theorem dX0_lemmaTells_60 : decode cX0_lemmaTells 60 = .ok (.aload_n 0, 1) := by decide +kernel
theorem dX0_lemmaTells_61 : decode cX0_lemmaTells 61 = .ok (.getfield 35, 3) := by decide +kernel
theorem dX0_lemmaTells_64 : decode cX0_lemmaTells 64 = .ok (.iload_n 1, 1) := by decide +kernel
theorem dX0_lemmaTells_65 : decode cX0_lemmaTells 65 = .ok (.iaload, 1) := by decide +kernel
theorem dX0_lemmaTells_66 : decode cX0_lemmaTells 66 = .ok (.invokestatic 130, 3) := by decide +kernel
theorem dX0_lemmaTells_69 : decode cX0_lemmaTells 69 = .ok (.ireturn, 1) := by decide +kernel
theorem dX0_lemmaTells_70 : decode cX0_lemmaTells 70 = .ok (.aload_n 0, 1) := by decide +kernel
theorem dX0_lemmaTells_71 : decode cX0_lemmaTells 71 = .ok (.getfield 38, 3) := by decide +kernel
theorem dX0_lemmaTells_74 : decode cX0_lemmaTells 74 = .ok (.iload_n 1, 1) := by decide +kernel
theorem dX0_lemmaTells_75 : decode cX0_lemmaTells 75 = .ok (.iaload, 1) := by decide +kernel
theorem dX0_lemmaTells_76 : decode cX0_lemmaTells 76 = .ok (.invokestatic 130, 3) := by decide +kernel
theorem dX0_lemmaTells_79 : decode cX0_lemmaTells 79 = .ok (.ireturn, 1) := by decide +kernel
theorem dX0_lemmaTells_80 : decode cX0_lemmaTells 80 = .ok (.aload_n 0, 1) := by decide +kernel
theorem dX0_lemmaTells_81 : decode cX0_lemmaTells 81 = .ok (.iload_n 1, 1) := by decide +kernel
theorem dX0_lemmaTells_82 : decode cX0_lemmaTells 82 = .ok (.invokevirtual 229, 3) := by decide +kernel
theorem dX0_lemmaTells_85 : decode cX0_lemmaTells 85 = .ok (.ireturn, 1) := by decide +kernel
theorem dX0_lemmaTells_86 : decode cX0_lemmaTells 86 = .ok (.aload_n 0, 1) := by decide +kernel
theorem dX0_lemmaTells_87 : decode cX0_lemmaTells 87 = .ok (.getfield 44, 3) := by decide +kernel
theorem dX0_lemmaTells_90 : decode cX0_lemmaTells 90 = .ok (.iload_n 1, 1) := by decide +kernel
theorem dX0_lemmaTells_91 : decode cX0_lemmaTells 91 = .ok (.iaload, 1) := by decide +kernel
theorem dX0_lemmaTells_92 : decode cX0_lemmaTells 92 = .ok (.ireturn, 1) := by decide +kernel
theorem dX0_stepsOf_0 : decode cX0_stepsOf 0 = .ok (.iconst 0, 1) := by decide +kernel
theorem dX0_stepsOf_1 : decode cX0_stepsOf 1 = .ok (.istore_n 2, 1) := by decide +kernel
theorem dX0_stepsOf_2 : decode cX0_stepsOf 2 = .ok (.iconst 0, 1) := by decide +kernel
theorem dX0_stepsOf_3 : decode cX0_stepsOf 3 = .ok (.istore_n 3, 1) := by decide +kernel
theorem dX0_stepsOf_4 : decode cX0_stepsOf 4 = .ok (.iload_n 3, 1) := by decide +kernel
theorem dX0_stepsOf_5 : decode cX0_stepsOf 5 = .ok (.aload_n 0, 1) := by decide +kernel
theorem dX0_stepsOf_6 : decode cX0_stepsOf 6 = .ok (.getfield 13, 3) := by decide +kernel
theorem dX0_stepsOf_9 : decode cX0_stepsOf 9 = .ok (.iload_n 1, 1) := by decide +kernel
theorem dX0_stepsOf_10 : decode cX0_stepsOf 10 = .ok (.iaload, 1) := by decide +kernel
theorem dX0_stepsOf_11 : decode cX0_stepsOf 11 = .ok (.if_icmp .ge 22, 3) := by decide +kernel
theorem dX0_stepsOf_14 : decode cX0_stepsOf 14 = .ok (.iload_n 2, 1) := by decide +kernel
theorem dX0_stepsOf_15 : decode cX0_stepsOf 15 = .ok (.aload_n 0, 1) := by decide +kernel
theorem dX0_stepsOf_16 : decode cX0_stepsOf 16 = .ok (.getfield 17, 3) := by decide +kernel
theorem dX0_stepsOf_19 : decode cX0_stepsOf 19 = .ok (.iload_n 1, 1) := by decide +kernel
theorem dX0_stepsOf_20 : decode cX0_stepsOf 20 = .ok (.iload_n 3, 1) := by decide +kernel
theorem dX0_stepsOf_21 : decode cX0_stepsOf 21 = .ok (.invokestatic 73, 3) := by decide +kernel
theorem dX0_stepsOf_24 : decode cX0_stepsOf 24 = .ok (.iaload, 1) := by decide +kernel
theorem dX0_stepsOf_25 : decode cX0_stepsOf 25 = .ok (.iadd, 1) := by decide +kernel
theorem dX0_stepsOf_26 : decode cX0_stepsOf 26 = .ok (.istore_n 2, 1) := by decide +kernel
theorem dX0_stepsOf_27 : decode cX0_stepsOf 27 = .ok (.iinc 3 1, 3) := by decide +kernel
theorem dX0_stepsOf_30 : decode cX0_stepsOf 30 = .ok (.goto (-26), 3) := by decide +kernel
theorem dX0_stepsOf_33 : decode cX0_stepsOf 33 = .ok (.iload_n 2, 1) := by decide +kernel
theorem dX0_stepsOf_34 : decode cX0_stepsOf 34 = .ok (.ireturn, 1) := by decide +kernel
theorem dX0_openOf_0 : decode cX0_openOf 0 = .ok (.iconst 0, 1) := by decide +kernel
theorem dX0_openOf_1 : decode cX0_openOf 1 = .ok (.istore_n 2, 1) := by decide +kernel
theorem dX0_openOf_2 : decode cX0_openOf 2 = .ok (.iconst 0, 1) := by decide +kernel
theorem dX0_openOf_3 : decode cX0_openOf 3 = .ok (.istore_n 3, 1) := by decide +kernel
theorem dX0_openOf_4 : decode cX0_openOf 4 = .ok (.iload_n 3, 1) := by decide +kernel
theorem dX0_openOf_5 : decode cX0_openOf 5 = .ok (.aload_n 0, 1) := by decide +kernel
theorem dX0_openOf_6 : decode cX0_openOf 6 = .ok (.getfield 13, 3) := by decide +kernel
theorem dX0_openOf_9 : decode cX0_openOf 9 = .ok (.iload_n 1, 1) := by decide +kernel
theorem dX0_openOf_10 : decode cX0_openOf 10 = .ok (.iaload, 1) := by decide +kernel
theorem dX0_openOf_11 : decode cX0_openOf 11 = .ok (.if_icmp .ge 50, 3) := by decide +kernel
theorem dX0_openOf_14 : decode cX0_openOf 14 = .ok (.iload_n 1, 1) := by decide +kernel
theorem dX0_openOf_15 : decode cX0_openOf 15 = .ok (.iload_n 3, 1) := by decide +kernel
theorem dX0_openOf_16 : decode cX0_openOf 16 = .ok (.invokestatic 73, 3) := by decide +kernel
theorem dX0_openOf_19 : decode cX0_openOf 19 = .ok (.istore 4, 2) := by decide +kernel
theorem dX0_openOf_21 : decode cX0_openOf 21 = .ok (.iload 4, 2) := by decide +kernel
theorem dX0_openOf_23 : decode cX0_openOf 23 = .ok (.invokestatic 181, 3) := by decide +kernel
theorem dX0_openOf_26 : decode cX0_openOf 26 = .ok (.istore 5, 2) := by decide +kernel
theorem dX0_openOf_28 : decode cX0_openOf 28 = .ok (.iload 5, 2) := by decide +kernel
theorem dX0_openOf_30 : decode cX0_openOf 30 = .ok (.aload_n 0, 1) := by decide +kernel
theorem dX0_openOf_31 : decode cX0_openOf 31 = .ok (.iload 4, 2) := by decide +kernel
theorem dX0_openOf_33 : decode cX0_openOf 33 = .ok (.invokevirtual 86, 3) := by decide +kernel
theorem dX0_openOf_36 : decode cX0_openOf 36 = .ok (.if_icmp .ge 19, 3) := by decide +kernel
theorem dX0_openOf_39 : decode cX0_openOf 39 = .ok (.iload_n 2, 1) := by decide +kernel
theorem dX0_openOf_40 : decode cX0_openOf 40 = .ok (.aload_n 0, 1) := by decide +kernel
theorem dX0_openOf_41 : decode cX0_openOf 41 = .ok (.getfield 26, 3) := by decide +kernel
theorem dX0_openOf_44 : decode cX0_openOf 44 = .ok (.iload 5, 2) := by decide +kernel
theorem dX0_openOf_46 : decode cX0_openOf 46 = .ok (.iaload, 1) := by decide +kernel
theorem dX0_openOf_47 : decode cX0_openOf 47 = .ok (.iadd, 1) := by decide +kernel
theorem dX0_openOf_48 : decode cX0_openOf 48 = .ok (.istore_n 2, 1) := by decide +kernel
theorem dX0_openOf_49 : decode cX0_openOf 49 = .ok (.iinc 5 1, 3) := by decide +kernel
theorem dX0_openOf_52 : decode cX0_openOf 52 = .ok (.goto (-24), 3) := by decide +kernel
theorem dX0_openOf_55 : decode cX0_openOf 55 = .ok (.iinc 3 1, 3) := by decide +kernel
theorem dX0_openOf_58 : decode cX0_openOf 58 = .ok (.goto (-54), 3) := by decide +kernel
theorem dX0_openOf_61 : decode cX0_openOf 61 = .ok (.iload_n 2, 1) := by decide +kernel
theorem dX0_openOf_62 : decode cX0_openOf 62 = .ok (.ireturn, 1) := by decide +kernel
theorem dX0_stepTells_0 : decode cX0_stepTells 0 = .ok (.iload_n 2, 1) := by decide +kernel
theorem dX0_stepTells_1 : decode cX0_stepTells 1 = .ok (.tableswitch 48 0 2 #[27, 34, 41], 27) := by decide +kernel
theorem dX0_stepTells_28 : decode cX0_stepTells 28 = .ok (.aload_n 0, 1) := by decide +kernel
theorem dX0_stepTells_29 : decode cX0_stepTells 29 = .ok (.getfield 20, 3) := by decide +kernel
theorem dX0_stepTells_32 : decode cX0_stepTells 32 = .ok (.iload_n 1, 1) := by decide +kernel
theorem dX0_stepTells_33 : decode cX0_stepTells 33 = .ok (.iaload, 1) := by decide +kernel
theorem dX0_stepTells_34 : decode cX0_stepTells 34 = .ok (.ireturn, 1) := by decide +kernel
theorem dX0_stepTells_35 : decode cX0_stepTells 35 = .ok (.aload_n 0, 1) := by decide +kernel
theorem dX0_stepTells_36 : decode cX0_stepTells 36 = .ok (.getfield 23, 3) := by decide +kernel
theorem dX0_stepTells_39 : decode cX0_stepTells 39 = .ok (.iload_n 1, 1) := by decide +kernel
theorem dX0_stepTells_40 : decode cX0_stepTells 40 = .ok (.iaload, 1) := by decide +kernel
theorem dX0_stepTells_41 : decode cX0_stepTells 41 = .ok (.ireturn, 1) := by decide +kernel
theorem dX0_stepTells_42 : decode cX0_stepTells 42 = .ok (.aload_n 0, 1) := by decide +kernel
theorem dX0_stepTells_43 : decode cX0_stepTells 43 = .ok (.getfield 26, 3) := by decide +kernel
theorem dX0_stepTells_46 : decode cX0_stepTells 46 = .ok (.iload_n 1, 1) := by decide +kernel
theorem dX0_stepTells_47 : decode cX0_stepTells 47 = .ok (.iaload, 1) := by decide +kernel
theorem dX0_stepTells_48 : decode cX0_stepTells 48 = .ok (.ireturn, 1) := by decide +kernel
theorem dX0_stepTells_49 : decode cX0_stepTells 49 = .ok (.aload_n 0, 1) := by decide +kernel
theorem dX0_stepTells_50 : decode cX0_stepTells 50 = .ok (.getfield 29, 3) := by decide +kernel
theorem dX0_stepTells_53 : decode cX0_stepTells 53 = .ok (.iload_n 1, 1) := by decide +kernel
theorem dX0_stepTells_54 : decode cX0_stepTells 54 = .ok (.baload, 1) := by decide +kernel
theorem dX0_stepTells_55 : decode cX0_stepTells 55 = .ok (.ifCond .eq 7, 3) := by decide +kernel
theorem dX0_stepTells_58 : decode cX0_stepTells 58 = .ok (.iconst 1, 1) := by decide +kernel
theorem dX0_stepTells_59 : decode cX0_stepTells 59 = .ok (.goto 4, 3) := by decide +kernel
theorem dX0_stepTells_62 : decode cX0_stepTells 62 = .ok (.iconst 0, 1) := by decide +kernel
theorem dX0_stepTells_63 : decode cX0_stepTells 63 = .ok (.ireturn, 1) := by decide +kernel
theorem dX0_countOf_0 : decode cX0_countOf 0 = .ok (.iload_n 1, 1) := by decide +kernel
theorem dX0_countOf_1 : decode cX0_countOf 1 = .ok (.tableswitch 72 0 5 #[39, 44, 49, 54, 60, 66], 39) := by decide +kernel
theorem dX0_countOf_40 : decode cX0_countOf 40 = .ok (.aload_n 0, 1) := by decide +kernel
theorem dX0_countOf_41 : decode cX0_countOf 41 = .ok (.getfield 57, 3) := by decide +kernel
theorem dX0_countOf_44 : decode cX0_countOf 44 = .ok (.ireturn, 1) := by decide +kernel
theorem dX0_countOf_45 : decode cX0_countOf 45 = .ok (.aload_n 0, 1) := by decide +kernel
theorem dX0_countOf_46 : decode cX0_countOf 46 = .ok (.getfield 140, 3) := by decide +kernel
theorem dX0_countOf_49 : decode cX0_countOf 49 = .ok (.ireturn, 1) := by decide +kernel
theorem dX0_countOf_50 : decode cX0_countOf 50 = .ok (.aload_n 0, 1) := by decide +kernel
theorem dX0_countOf_51 : decode cX0_countOf 51 = .ok (.invokevirtual 232, 3) := by decide +kernel
theorem dX0_countOf_54 : decode cX0_countOf 54 = .ok (.ireturn, 1) := by decide +kernel
theorem dX0_countOf_55 : decode cX0_countOf 55 = .ok (.aload_n 0, 1) := by decide +kernel
theorem dX0_countOf_56 : decode cX0_countOf 56 = .ok (.iconst 0, 1) := by decide +kernel
theorem dX0_countOf_57 : decode cX0_countOf 57 = .ok (.invokevirtual 146, 3) := by decide +kernel
theorem dX0_countOf_60 : decode cX0_countOf 60 = .ok (.ireturn, 1) := by decide +kernel
theorem dX0_countOf_61 : decode cX0_countOf 61 = .ok (.aload_n 0, 1) := by decide +kernel
theorem dX0_countOf_62 : decode cX0_countOf 62 = .ok (.iconst 1, 1) := by decide +kernel
theorem dX0_countOf_63 : decode cX0_countOf 63 = .ok (.invokevirtual 146, 3) := by decide +kernel
theorem dX0_countOf_66 : decode cX0_countOf 66 = .ok (.ireturn, 1) := by decide +kernel
theorem dX0_countOf_67 : decode cX0_countOf 67 = .ok (.aload_n 0, 1) := by decide +kernel
theorem dX0_countOf_68 : decode cX0_countOf 68 = .ok (.iconst 5, 1) := by decide +kernel
theorem dX0_countOf_69 : decode cX0_countOf 69 = .ok (.invokevirtual 146, 3) := by decide +kernel
theorem dX0_countOf_72 : decode cX0_countOf 72 = .ok (.ireturn, 1) := by decide +kernel
theorem dX0_countOf_73 : decode cX0_countOf 73 = .ok (.aload_n 0, 1) := by decide +kernel
theorem dX0_countOf_74 : decode cX0_countOf 74 = .ok (.invokevirtual 236, 3) := by decide +kernel
theorem dX0_countOf_77 : decode cX0_countOf 77 = .ok (.ireturn, 1) := by decide +kernel
theorem dX0_axiomsTaken_0 : decode cX0_axiomsTaken 0 = .ok (.iconst 0, 1) := by decide +kernel
theorem dX0_axiomsTaken_1 : decode cX0_axiomsTaken 1 = .ok (.istore_n 1, 1) := by decide +kernel
theorem dX0_axiomsTaken_2 : decode cX0_axiomsTaken 2 = .ok (.iconst 0, 1) := by decide +kernel
theorem dX0_axiomsTaken_3 : decode cX0_axiomsTaken 3 = .ok (.istore_n 2, 1) := by decide +kernel
theorem dX0_axiomsTaken_4 : decode cX0_axiomsTaken 4 = .ok (.iload_n 2, 1) := by decide +kernel
theorem dX0_axiomsTaken_5 : decode cX0_axiomsTaken 5 = .ok (.iconst 5, 1) := by decide +kernel
theorem dX0_axiomsTaken_6 : decode cX0_axiomsTaken 6 = .ok (.if_icmp .ge 21, 3) := by decide +kernel
theorem dX0_axiomsTaken_9 : decode cX0_axiomsTaken 9 = .ok (.aload_n 0, 1) := by decide +kernel
theorem dX0_axiomsTaken_10 : decode cX0_axiomsTaken 10 = .ok (.getfield 9, 3) := by decide +kernel
theorem dX0_axiomsTaken_13 : decode cX0_axiomsTaken 13 = .ok (.iload_n 2, 1) := by decide +kernel
theorem dX0_axiomsTaken_14 : decode cX0_axiomsTaken 14 = .ok (.baload, 1) := by decide +kernel
theorem dX0_axiomsTaken_15 : decode cX0_axiomsTaken 15 = .ok (.ifCond .eq 6, 3) := by decide +kernel
theorem dX0_axiomsTaken_18 : decode cX0_axiomsTaken 18 = .ok (.iinc 1 1, 3) := by decide +kernel
theorem dX0_axiomsTaken_21 : decode cX0_axiomsTaken 21 = .ok (.iinc 2 1, 3) := by decide +kernel
theorem dX0_axiomsTaken_24 : decode cX0_axiomsTaken 24 = .ok (.goto (-20), 3) := by decide +kernel
theorem dX0_axiomsTaken_27 : decode cX0_axiomsTaken 27 = .ok (.iload_n 1, 1) := by decide +kernel
theorem dX0_axiomsTaken_28 : decode cX0_axiomsTaken 28 = .ok (.ireturn, 1) := by decide +kernel
theorem dX0_overLemmas_0 : decode cX0_overLemmas 0 = .ok (.iconst 0, 1) := by decide +kernel
theorem dX0_overLemmas_1 : decode cX0_overLemmas 1 = .ok (.istore_n 2, 1) := by decide +kernel
theorem dX0_overLemmas_2 : decode cX0_overLemmas 2 = .ok (.iconst 0, 1) := by decide +kernel
theorem dX0_overLemmas_3 : decode cX0_overLemmas 3 = .ok (.istore_n 3, 1) := by decide +kernel
theorem dX0_overLemmas_4 : decode cX0_overLemmas 4 = .ok (.iload_n 3, 1) := by decide +kernel
theorem dX0_overLemmas_5 : decode cX0_overLemmas 5 = .ok (.aload_n 0, 1) := by decide +kernel
theorem dX0_overLemmas_6 : decode cX0_overLemmas 6 = .ok (.getfield 57, 3) := by decide +kernel
theorem dX0_overLemmas_9 : decode cX0_overLemmas 9 = .ok (.if_icmp .ge 18, 3) := by decide +kernel
theorem dX0_overLemmas_12 : decode cX0_overLemmas 12 = .ok (.iload_n 2, 1) := by decide +kernel
theorem dX0_overLemmas_13 : decode cX0_overLemmas 13 = .ok (.aload_n 0, 1) := by decide +kernel
theorem dX0_overLemmas_14 : decode cX0_overLemmas 14 = .ok (.iload_n 3, 1) := by decide +kernel
theorem dX0_overLemmas_15 : decode cX0_overLemmas 15 = .ok (.iload_n 1, 1) := by decide +kernel
theorem dX0_overLemmas_16 : decode cX0_overLemmas 16 = .ok (.invokevirtual 116, 3) := by decide +kernel
theorem dX0_overLemmas_19 : decode cX0_overLemmas 19 = .ok (.iadd, 1) := by decide +kernel
theorem dX0_overLemmas_20 : decode cX0_overLemmas 20 = .ok (.istore_n 2, 1) := by decide +kernel
theorem dX0_overLemmas_21 : decode cX0_overLemmas 21 = .ok (.iinc 3 1, 3) := by decide +kernel
theorem dX0_overLemmas_24 : decode cX0_overLemmas 24 = .ok (.goto (-20), 3) := by decide +kernel
theorem dX0_overLemmas_27 : decode cX0_overLemmas 27 = .ok (.iload_n 2, 1) := by decide +kernel
theorem dX0_overLemmas_28 : decode cX0_overLemmas 28 = .ok (.ireturn, 1) := by decide +kernel
theorem dX0_lemmasInCircles_0 : decode cX0_lemmasInCircles 0 = .ok (.iconst 0, 1) := by decide +kernel
theorem dX0_lemmasInCircles_1 : decode cX0_lemmasInCircles 1 = .ok (.istore_n 1, 1) := by decide +kernel
theorem dX0_lemmasInCircles_2 : decode cX0_lemmasInCircles 2 = .ok (.iconst 0, 1) := by decide +kernel
theorem dX0_lemmasInCircles_3 : decode cX0_lemmasInCircles 3 = .ok (.istore_n 2, 1) := by decide +kernel
theorem dX0_lemmasInCircles_4 : decode cX0_lemmasInCircles 4 = .ok (.iload_n 2, 1) := by decide +kernel
theorem dX0_lemmasInCircles_5 : decode cX0_lemmasInCircles 5 = .ok (.aload_n 0, 1) := by decide +kernel
theorem dX0_lemmasInCircles_6 : decode cX0_lemmasInCircles 6 = .ok (.getfield 57, 3) := by decide +kernel
theorem dX0_lemmasInCircles_9 : decode cX0_lemmasInCircles 9 = .ok (.if_icmp .ge 21, 3) := by decide +kernel
theorem dX0_lemmasInCircles_12 : decode cX0_lemmasInCircles 12 = .ok (.aload_n 0, 1) := by decide +kernel
theorem dX0_lemmasInCircles_13 : decode cX0_lemmasInCircles 13 = .ok (.getfield 44, 3) := by decide +kernel
theorem dX0_lemmasInCircles_16 : decode cX0_lemmasInCircles 16 = .ok (.iload_n 2, 1) := by decide +kernel
theorem dX0_lemmasInCircles_17 : decode cX0_lemmasInCircles 17 = .ok (.iaload, 1) := by decide +kernel
theorem dX0_lemmasInCircles_18 : decode cX0_lemmasInCircles 18 = .ok (.ifCond .le 6, 3) := by decide +kernel
theorem dX0_lemmasInCircles_21 : decode cX0_lemmasInCircles 21 = .ok (.iinc 1 1, 3) := by decide +kernel
theorem dX0_lemmasInCircles_24 : decode cX0_lemmasInCircles 24 = .ok (.iinc 2 1, 3) := by decide +kernel
theorem dX0_lemmasInCircles_27 : decode cX0_lemmasInCircles 27 = .ok (.goto (-23), 3) := by decide +kernel
theorem dX0_lemmasInCircles_30 : decode cX0_lemmasInCircles 30 = .ok (.iload_n 1, 1) := by decide +kernel
theorem dX0_lemmasInCircles_31 : decode cX0_lemmasInCircles 31 = .ok (.ireturn, 1) := by decide +kernel
theorem dX0_provedIfClosed_0 : decode cX0_provedIfClosed 0 = .ok (.aload_n 0, 1) := by decide +kernel
theorem dX0_provedIfClosed_1 : decode cX0_provedIfClosed 1 = .ok (.getfield 26, 3) := by decide +kernel
theorem dX0_provedIfClosed_4 : decode cX0_provedIfClosed 4 = .ok (.iload_n 1, 1) := by decide +kernel
theorem dX0_provedIfClosed_5 : decode cX0_provedIfClosed 5 = .ok (.iaload, 1) := by decide +kernel
theorem dX0_provedIfClosed_6 : decode cX0_provedIfClosed 6 = .ok (.istore_n 2, 1) := by decide +kernel
theorem dX0_provedIfClosed_7 : decode cX0_provedIfClosed 7 = .ok (.iload_n 2, 1) := by decide +kernel
theorem dX0_provedIfClosed_8 : decode cX0_provedIfClosed 8 = .ok (.ifCond .ne 8, 3) := by decide +kernel
theorem dX0_provedIfClosed_11 : decode cX0_provedIfClosed 11 = .ok (.aload_n 0, 1) := by decide +kernel
theorem dX0_provedIfClosed_12 : decode cX0_provedIfClosed 12 = .ok (.getfield 140, 3) := by decide +kernel
theorem dX0_provedIfClosed_15 : decode cX0_provedIfClosed 15 = .ok (.ireturn, 1) := by decide +kernel
theorem dX0_provedIfClosed_16 : decode cX0_provedIfClosed 16 = .ok (.aload_n 0, 1) := by decide +kernel
theorem dX0_provedIfClosed_17 : decode cX0_provedIfClosed 17 = .ok (.getfield 26, 3) := by decide +kernel
theorem dX0_provedIfClosed_20 : decode cX0_provedIfClosed 20 = .ok (.iload_n 1, 1) := by decide +kernel
theorem dX0_provedIfClosed_21 : decode cX0_provedIfClosed 21 = .ok (.iconst 0, 1) := by decide +kernel
theorem dX0_provedIfClosed_22 : decode cX0_provedIfClosed 22 = .ok (.iastore, 1) := by decide +kernel
theorem dX0_provedIfClosed_23 : decode cX0_provedIfClosed 23 = .ok (.aload_n 0, 1) := by decide +kernel
theorem dX0_provedIfClosed_24 : decode cX0_provedIfClosed 24 = .ok (.aload_n 0, 1) := by decide +kernel
theorem dX0_provedIfClosed_25 : decode cX0_provedIfClosed 25 = .ok (.getfield 47, 3) := by decide +kernel
theorem dX0_provedIfClosed_28 : decode cX0_provedIfClosed 28 = .ok (.iconst (-1), 1) := by decide +kernel
theorem dX0_provedIfClosed_29 : decode cX0_provedIfClosed 29 = .ok (.invokevirtual 136, 3) := by decide +kernel
theorem dX0_provedIfClosed_32 : decode cX0_provedIfClosed 32 = .ok (.istore_n 3, 1) := by decide +kernel
theorem dX0_provedIfClosed_33 : decode cX0_provedIfClosed 33 = .ok (.aload_n 0, 1) := by decide +kernel
theorem dX0_provedIfClosed_34 : decode cX0_provedIfClosed 34 = .ok (.getfield 26, 3) := by decide +kernel
theorem dX0_provedIfClosed_37 : decode cX0_provedIfClosed 37 = .ok (.iload_n 1, 1) := by decide +kernel
theorem dX0_provedIfClosed_38 : decode cX0_provedIfClosed 38 = .ok (.iload_n 2, 1) := by decide +kernel
theorem dX0_provedIfClosed_39 : decode cX0_provedIfClosed 39 = .ok (.iastore, 1) := by decide +kernel
theorem dX0_provedIfClosed_40 : decode cX0_provedIfClosed 40 = .ok (.iload_n 3, 1) := by decide +kernel
theorem dX0_provedIfClosed_41 : decode cX0_provedIfClosed 41 = .ok (.ireturn, 1) := by decide +kernel
theorem dX0_digestLemma_0 : decode cX0_digestLemma 0 = .ok (.lload_n 1, 1) := by decide +kernel
theorem dX0_digestLemma_1 : decode cX0_digestLemma 1 = .ok (.lstore 4, 2) := by decide +kernel
theorem dX0_digestLemma_3 : decode cX0_digestLemma 3 = .ok (.iconst 0, 1) := by decide +kernel
theorem dX0_digestLemma_4 : decode cX0_digestLemma 4 = .ok (.istore 6, 2) := by decide +kernel
theorem dX0_digestLemma_6 : decode cX0_digestLemma 6 = .ok (.iload 6, 2) := by decide +kernel
theorem dX0_digestLemma_8 : decode cX0_digestLemma 8 = .ok (.bipush 7, 2) := by decide +kernel
theorem dX0_digestLemma_10 : decode cX0_digestLemma 10 = .ok (.if_icmp .ge 26, 3) := by decide +kernel
theorem dX0_digestLemma_13 : decode cX0_digestLemma 13 = .ok (.lload 4, 2) := by decide +kernel
theorem dX0_digestLemma_15 : decode cX0_digestLemma 15 = .ok (.ldc2_w 151, 3) := by decide +kernel
theorem dX0_digestLemma_18 : decode cX0_digestLemma 18 = .ok (.lmul, 1) := by decide +kernel
theorem dX0_digestLemma_19 : decode cX0_digestLemma 19 = .ok (.aload_n 0, 1) := by decide +kernel
theorem dX0_digestLemma_20 : decode cX0_digestLemma 20 = .ok (.iload_n 3, 1) := by decide +kernel
theorem dX0_digestLemma_21 : decode cX0_digestLemma 21 = .ok (.iload 6, 2) := by decide +kernel
theorem dX0_digestLemma_23 : decode cX0_digestLemma 23 = .ok (.invokevirtual 116, 3) := by decide +kernel
theorem dX0_digestLemma_26 : decode cX0_digestLemma 26 = .ok (.i2l, 1) := by decide +kernel
theorem dX0_digestLemma_27 : decode cX0_digestLemma 27 = .ok (.ladd, 1) := by decide +kernel
theorem dX0_digestLemma_28 : decode cX0_digestLemma 28 = .ok (.lstore 4, 2) := by decide +kernel
theorem dX0_digestLemma_30 : decode cX0_digestLemma 30 = .ok (.iinc 6 1, 3) := by decide +kernel
theorem dX0_digestLemma_33 : decode cX0_digestLemma 33 = .ok (.goto (-27), 3) := by decide +kernel
theorem dX0_digestLemma_36 : decode cX0_digestLemma 36 = .ok (.iconst 0, 1) := by decide +kernel
theorem dX0_digestLemma_37 : decode cX0_digestLemma 37 = .ok (.istore 6, 2) := by decide +kernel
theorem dX0_digestLemma_39 : decode cX0_digestLemma 39 = .ok (.iload 6, 2) := by decide +kernel
theorem dX0_digestLemma_41 : decode cX0_digestLemma 41 = .ok (.aload_n 0, 1) := by decide +kernel
theorem dX0_digestLemma_42 : decode cX0_digestLemma 42 = .ok (.getfield 13, 3) := by decide +kernel
theorem dX0_digestLemma_45 : decode cX0_digestLemma 45 = .ok (.iload_n 3, 1) := by decide +kernel
theorem dX0_digestLemma_46 : decode cX0_digestLemma 46 = .ok (.iaload, 1) := by decide +kernel
theorem dX0_digestLemma_47 : decode cX0_digestLemma 47 = .ok (.if_icmp .ge 23, 3) := by decide +kernel
theorem dX0_digestLemma_50 : decode cX0_digestLemma 50 = .ok (.aload_n 0, 1) := by decide +kernel
theorem dX0_digestLemma_51 : decode cX0_digestLemma 51 = .ok (.lload 4, 2) := by decide +kernel
theorem dX0_digestLemma_53 : decode cX0_digestLemma 53 = .ok (.iload_n 3, 1) := by decide +kernel
theorem dX0_digestLemma_54 : decode cX0_digestLemma 54 = .ok (.iload 6, 2) := by decide +kernel
theorem dX0_digestLemma_56 : decode cX0_digestLemma 56 = .ok (.invokestatic 73, 3) := by decide +kernel
theorem dX0_digestLemma_59 : decode cX0_digestLemma 59 = .ok (.invokevirtual 239, 3) := by decide +kernel
theorem dX0_digestLemma_62 : decode cX0_digestLemma 62 = .ok (.lstore 4, 2) := by decide +kernel
theorem dX0_digestLemma_64 : decode cX0_digestLemma 64 = .ok (.iinc 6 1, 3) := by decide +kernel
theorem dX0_digestLemma_67 : decode cX0_digestLemma 67 = .ok (.goto (-28), 3) := by decide +kernel
theorem dX0_digestLemma_70 : decode cX0_digestLemma 70 = .ok (.lload 4, 2) := by decide +kernel
theorem dX0_digestLemma_72 : decode cX0_digestLemma 72 = .ok (.lreturn, 1) := by decide +kernel
theorem dX0_digestProof_0 : decode cX0_digestProof 0 = .ok (.lload_n 1, 1) := by decide +kernel
theorem dX0_digestProof_1 : decode cX0_digestProof 1 = .ok (.ldc2_w 151, 3) := by decide +kernel
theorem dX0_digestProof_4 : decode cX0_digestProof 4 = .ok (.lmul, 1) := by decide +kernel
theorem dX0_digestProof_5 : decode cX0_digestProof 5 = .ok (.aload_n 0, 1) := by decide +kernel
theorem dX0_digestProof_6 : decode cX0_digestProof 6 = .ok (.getfield 17, 3) := by decide +kernel
theorem dX0_digestProof_9 : decode cX0_digestProof 9 = .ok (.iload_n 3, 1) := by decide +kernel
theorem dX0_digestProof_10 : decode cX0_digestProof 10 = .ok (.iaload, 1) := by decide +kernel
theorem dX0_digestProof_11 : decode cX0_digestProof 11 = .ok (.i2l, 1) := by decide +kernel
theorem dX0_digestProof_12 : decode cX0_digestProof 12 = .ok (.ladd, 1) := by decide +kernel
theorem dX0_digestProof_13 : decode cX0_digestProof 13 = .ok (.lstore 4, 2) := by decide +kernel
theorem dX0_digestProof_15 : decode cX0_digestProof 15 = .ok (.iload_n 3, 1) := by decide +kernel
theorem dX0_digestProof_16 : decode cX0_digestProof 16 = .ok (.invokestatic 181, 3) := by decide +kernel
theorem dX0_digestProof_19 : decode cX0_digestProof 19 = .ok (.istore 6, 2) := by decide +kernel
theorem dX0_digestProof_21 : decode cX0_digestProof 21 = .ok (.iload 6, 2) := by decide +kernel
theorem dX0_digestProof_23 : decode cX0_digestProof 23 = .ok (.aload_n 0, 1) := by decide +kernel
theorem dX0_digestProof_24 : decode cX0_digestProof 24 = .ok (.iload_n 3, 1) := by decide +kernel
theorem dX0_digestProof_25 : decode cX0_digestProof 25 = .ok (.invokevirtual 86, 3) := by decide +kernel
theorem dX0_digestProof_28 : decode cX0_digestProof 28 = .ok (.if_icmp .ge 42, 3) := by decide +kernel
theorem dX0_digestProof_31 : decode cX0_digestProof 31 = .ok (.iconst 0, 1) := by decide +kernel
theorem dX0_digestProof_32 : decode cX0_digestProof 32 = .ok (.istore 7, 2) := by decide +kernel
theorem dX0_digestProof_34 : decode cX0_digestProof 34 = .ok (.iload 7, 2) := by decide +kernel
theorem dX0_digestProof_36 : decode cX0_digestProof 36 = .ok (.iconst 4, 1) := by decide +kernel
theorem dX0_digestProof_37 : decode cX0_digestProof 37 = .ok (.if_icmp .ge 27, 3) := by decide +kernel
theorem dX0_digestProof_40 : decode cX0_digestProof 40 = .ok (.lload 4, 2) := by decide +kernel
theorem dX0_digestProof_42 : decode cX0_digestProof 42 = .ok (.ldc2_w 151, 3) := by decide +kernel
theorem dX0_digestProof_45 : decode cX0_digestProof 45 = .ok (.lmul, 1) := by decide +kernel
theorem dX0_digestProof_46 : decode cX0_digestProof 46 = .ok (.aload_n 0, 1) := by decide +kernel
theorem dX0_digestProof_47 : decode cX0_digestProof 47 = .ok (.iload 6, 2) := by decide +kernel
theorem dX0_digestProof_49 : decode cX0_digestProof 49 = .ok (.iload 7, 2) := by decide +kernel
theorem dX0_digestProof_51 : decode cX0_digestProof 51 = .ok (.invokevirtual 119, 3) := by decide +kernel
theorem dX0_digestProof_54 : decode cX0_digestProof 54 = .ok (.i2l, 1) := by decide +kernel
theorem dX0_digestProof_55 : decode cX0_digestProof 55 = .ok (.ladd, 1) := by decide +kernel
theorem dX0_digestProof_56 : decode cX0_digestProof 56 = .ok (.lstore 4, 2) := by decide +kernel
theorem dX0_digestProof_58 : decode cX0_digestProof 58 = .ok (.iinc 7 1, 3) := by decide +kernel
theorem dX0_digestProof_61 : decode cX0_digestProof 61 = .ok (.goto (-27), 3) := by decide +kernel
theorem dX0_digestProof_64 : decode cX0_digestProof 64 = .ok (.iinc 6 1, 3) := by decide +kernel
theorem dX0_digestProof_67 : decode cX0_digestProof 67 = .ok (.goto (-46), 3) := by decide +kernel
theorem dX0_digestProof_70 : decode cX0_digestProof 70 = .ok (.lload 4, 2) := by decide +kernel
theorem dX0_digestProof_72 : decode cX0_digestProof 72 = .ok (.lreturn, 1) := by decide +kernel
theorem dX1_init_0 : decode cX1_init 0 = .ok (.aload_n 0, 1) := by decide +kernel
theorem dX1_init_1 : decode cX1_init 1 = .ok (.invokespecial 1, 3) := by decide +kernel
theorem dX1_init_4 : decode cX1_init 4 = .ok (.aload_n 0, 1) := by decide +kernel
theorem dX1_init_5 : decode cX1_init 5 = .ok (.iconst 5, 1) := by decide +kernel
theorem dX1_init_6 : decode cX1_init 6 = .ok (.newarray .boolean, 2) := by decide +kernel
theorem dX1_init_8 : decode cX1_init 8 = .ok (.dup, 1) := by decide +kernel
theorem dX1_init_9 : decode cX1_init 9 = .ok (.iconst 0, 1) := by decide +kernel
theorem dX1_init_10 : decode cX1_init 10 = .ok (.iconst 1, 1) := by decide +kernel
theorem dX1_init_11 : decode cX1_init 11 = .ok (.bastore, 1) := by decide +kernel
theorem dX1_init_12 : decode cX1_init 12 = .ok (.dup, 1) := by decide +kernel
theorem dX1_init_13 : decode cX1_init 13 = .ok (.iconst 1, 1) := by decide +kernel
theorem dX1_init_14 : decode cX1_init 14 = .ok (.iconst 1, 1) := by decide +kernel
theorem dX1_init_15 : decode cX1_init 15 = .ok (.bastore, 1) := by decide +kernel
theorem dX1_init_16 : decode cX1_init 16 = .ok (.dup, 1) := by decide +kernel
theorem dX1_init_17 : decode cX1_init 17 = .ok (.iconst 2, 1) := by decide +kernel
theorem dX1_init_18 : decode cX1_init 18 = .ok (.iconst 1, 1) := by decide +kernel
theorem dX1_init_19 : decode cX1_init 19 = .ok (.bastore, 1) := by decide +kernel
theorem dX1_init_20 : decode cX1_init 20 = .ok (.dup, 1) := by decide +kernel
theorem dX1_init_21 : decode cX1_init 21 = .ok (.iconst 3, 1) := by decide +kernel
theorem dX1_init_22 : decode cX1_init 22 = .ok (.iconst 1, 1) := by decide +kernel
theorem dX1_init_23 : decode cX1_init 23 = .ok (.bastore, 1) := by decide +kernel
theorem dX1_init_24 : decode cX1_init 24 = .ok (.dup, 1) := by decide +kernel
theorem dX1_init_25 : decode cX1_init 25 = .ok (.iconst 4, 1) := by decide +kernel
theorem dX1_init_26 : decode cX1_init 26 = .ok (.iconst 1, 1) := by decide +kernel
theorem dX1_init_27 : decode cX1_init 27 = .ok (.bastore, 1) := by decide +kernel
theorem dX1_init_28 : decode cX1_init 28 = .ok (.putfield 7, 3) := by decide +kernel
theorem dX1_init_31 : decode cX1_init 31 = .ok (.aload_n 0, 1) := by decide +kernel
theorem dX1_init_32 : decode cX1_init 32 = .ok (.iconst 0, 1) := by decide +kernel
theorem dX1_init_33 : decode cX1_init 33 = .ok (.anewarray 13, 3) := by decide +kernel
theorem dX1_init_36 : decode cX1_init 36 = .ok (.putfield 15, 3) := by decide +kernel
theorem dX1_init_39 : decode cX1_init 39 = .ok (.return_, 1) := by decide +kernel
theorem dX1_more_0 : decode cX1_more 0 = .ok (.aload_n 0, 1) := by decide +kernel
theorem dX1_more_1 : decode cX1_more 1 = .ok (.arraylength, 1) := by decide +kernel
theorem dX1_more_2 : decode cX1_more 2 = .ok (.iconst 1, 1) := by decide +kernel
theorem dX1_more_3 : decode cX1_more 3 = .ok (.iadd, 1) := by decide +kernel
theorem dX1_more_4 : decode cX1_more 4 = .ok (.anewarray 19, 3) := by decide +kernel
theorem dX1_more_7 : decode cX1_more 7 = .ok (.astore_n 2, 1) := by decide +kernel
theorem dX1_more_8 : decode cX1_more 8 = .ok (.iconst 0, 1) := by decide +kernel
theorem dX1_more_9 : decode cX1_more 9 = .ok (.istore_n 3, 1) := by decide +kernel
theorem dX1_more_10 : decode cX1_more 10 = .ok (.iload_n 3, 1) := by decide +kernel
theorem dX1_more_11 : decode cX1_more 11 = .ok (.aload_n 0, 1) := by decide +kernel
theorem dX1_more_12 : decode cX1_more 12 = .ok (.arraylength, 1) := by decide +kernel
theorem dX1_more_13 : decode cX1_more 13 = .ok (.if_icmp .ge 15, 3) := by decide +kernel
theorem dX1_more_16 : decode cX1_more 16 = .ok (.aload_n 2, 1) := by decide +kernel
theorem dX1_more_17 : decode cX1_more 17 = .ok (.iload_n 3, 1) := by decide +kernel
theorem dX1_more_18 : decode cX1_more 18 = .ok (.aload_n 0, 1) := by decide +kernel
theorem dX1_more_19 : decode cX1_more 19 = .ok (.iload_n 3, 1) := by decide +kernel
theorem dX1_more_20 : decode cX1_more 20 = .ok (.aaload, 1) := by decide +kernel
theorem dX1_more_21 : decode cX1_more 21 = .ok (.aastore, 1) := by decide +kernel
theorem dX1_more_22 : decode cX1_more 22 = .ok (.iinc 3 1, 3) := by decide +kernel
theorem dX1_more_25 : decode cX1_more 25 = .ok (.goto (-15), 3) := by decide +kernel
theorem dX1_more_28 : decode cX1_more 28 = .ok (.aload_n 2, 1) := by decide +kernel
theorem dX1_more_29 : decode cX1_more 29 = .ok (.aload_n 0, 1) := by decide +kernel
theorem dX1_more_30 : decode cX1_more 30 = .ok (.arraylength, 1) := by decide +kernel
theorem dX1_more_31 : decode cX1_more 31 = .ok (.aload_n 1, 1) := by decide +kernel
theorem dX1_more_32 : decode cX1_more 32 = .ok (.aastore, 1) := by decide +kernel
theorem dX1_more_33 : decode cX1_more 33 = .ok (.aload_n 2, 1) := by decide +kernel
theorem dX1_more_34 : decode cX1_more 34 = .ok (.areturn, 1) := by decide +kernel
theorem dX1_lemma_0 : decode cX1_lemma 0 = .ok (.aload_n 0, 1) := by decide +kernel
theorem dX1_lemma_1 : decode cX1_lemma 1 = .ok (.getfield 15, 3) := by decide +kernel
theorem dX1_lemma_4 : decode cX1_lemma 4 = .ok (.arraylength, 1) := by decide +kernel
theorem dX1_lemma_5 : decode cX1_lemma 5 = .ok (.iconst 1, 1) := by decide +kernel
theorem dX1_lemma_6 : decode cX1_lemma 6 = .ok (.iadd, 1) := by decide +kernel
theorem dX1_lemma_7 : decode cX1_lemma 7 = .ok (.anewarray 13, 3) := by decide +kernel
theorem dX1_lemma_10 : decode cX1_lemma 10 = .ok (.astore_n 1, 1) := by decide +kernel
theorem dX1_lemma_11 : decode cX1_lemma 11 = .ok (.iconst 0, 1) := by decide +kernel
theorem dX1_lemma_12 : decode cX1_lemma 12 = .ok (.istore_n 2, 1) := by decide +kernel
theorem dX1_lemma_13 : decode cX1_lemma 13 = .ok (.iload_n 2, 1) := by decide +kernel
theorem dX1_lemma_14 : decode cX1_lemma 14 = .ok (.aload_n 0, 1) := by decide +kernel
theorem dX1_lemma_15 : decode cX1_lemma 15 = .ok (.getfield 15, 3) := by decide +kernel
theorem dX1_lemma_18 : decode cX1_lemma 18 = .ok (.arraylength, 1) := by decide +kernel
theorem dX1_lemma_19 : decode cX1_lemma 19 = .ok (.if_icmp .ge 18, 3) := by decide +kernel
theorem dX1_lemma_22 : decode cX1_lemma 22 = .ok (.aload_n 1, 1) := by decide +kernel
theorem dX1_lemma_23 : decode cX1_lemma 23 = .ok (.iload_n 2, 1) := by decide +kernel
theorem dX1_lemma_24 : decode cX1_lemma 24 = .ok (.aload_n 0, 1) := by decide +kernel
theorem dX1_lemma_25 : decode cX1_lemma 25 = .ok (.getfield 15, 3) := by decide +kernel
theorem dX1_lemma_28 : decode cX1_lemma 28 = .ok (.iload_n 2, 1) := by decide +kernel
theorem dX1_lemma_29 : decode cX1_lemma 29 = .ok (.aaload, 1) := by decide +kernel
theorem dX1_lemma_30 : decode cX1_lemma 30 = .ok (.aastore, 1) := by decide +kernel
theorem dX1_lemma_31 : decode cX1_lemma 31 = .ok (.iinc 2 1, 3) := by decide +kernel
theorem dX1_lemma_34 : decode cX1_lemma 34 = .ok (.goto (-21), 3) := by decide +kernel
theorem dX1_lemma_37 : decode cX1_lemma 37 = .ok (.aload_n 1, 1) := by decide +kernel
theorem dX1_lemma_38 : decode cX1_lemma 38 = .ok (.aload_n 0, 1) := by decide +kernel
theorem dX1_lemma_39 : decode cX1_lemma 39 = .ok (.getfield 15, 3) := by decide +kernel
theorem dX1_lemma_42 : decode cX1_lemma 42 = .ok (.arraylength, 1) := by decide +kernel
theorem dX1_lemma_43 : decode cX1_lemma 43 = .ok (.iconst 0, 1) := by decide +kernel
theorem dX1_lemma_44 : decode cX1_lemma 44 = .ok (.anewarray 21, 3) := by decide +kernel
theorem dX1_lemma_47 : decode cX1_lemma 47 = .ok (.aastore, 1) := by decide +kernel
theorem dX1_lemma_48 : decode cX1_lemma 48 = .ok (.aload_n 0, 1) := by decide +kernel
theorem dX1_lemma_49 : decode cX1_lemma 49 = .ok (.aload_n 1, 1) := by decide +kernel
theorem dX1_lemma_50 : decode cX1_lemma 50 = .ok (.putfield 15, 3) := by decide +kernel
theorem dX1_lemma_53 : decode cX1_lemma 53 = .ok (.return_, 1) := by decide +kernel
theorem dX1_proof_0 : decode cX1_proof 0 = .ok (.aload_n 0, 1) := by decide +kernel
theorem dX1_proof_1 : decode cX1_proof 1 = .ok (.getfield 15, 3) := by decide +kernel
theorem dX1_proof_4 : decode cX1_proof 4 = .ok (.iload_n 1, 1) := by decide +kernel
theorem dX1_proof_5 : decode cX1_proof 5 = .ok (.aaload, 1) := by decide +kernel
theorem dX1_proof_6 : decode cX1_proof 6 = .ok (.arraylength, 1) := by decide +kernel
theorem dX1_proof_7 : decode cX1_proof 7 = .ok (.iconst 1, 1) := by decide +kernel
theorem dX1_proof_8 : decode cX1_proof 8 = .ok (.iadd, 1) := by decide +kernel
theorem dX1_proof_9 : decode cX1_proof 9 = .ok (.anewarray 21, 3) := by decide +kernel
theorem dX1_proof_12 : decode cX1_proof 12 = .ok (.astore_n 2, 1) := by decide +kernel
theorem dX1_proof_13 : decode cX1_proof 13 = .ok (.iconst 0, 1) := by decide +kernel
theorem dX1_proof_14 : decode cX1_proof 14 = .ok (.istore_n 3, 1) := by decide +kernel
theorem dX1_proof_15 : decode cX1_proof 15 = .ok (.iload_n 3, 1) := by decide +kernel
theorem dX1_proof_16 : decode cX1_proof 16 = .ok (.aload_n 0, 1) := by decide +kernel
theorem dX1_proof_17 : decode cX1_proof 17 = .ok (.getfield 15, 3) := by decide +kernel
theorem dX1_proof_20 : decode cX1_proof 20 = .ok (.iload_n 1, 1) := by decide +kernel
theorem dX1_proof_21 : decode cX1_proof 21 = .ok (.aaload, 1) := by decide +kernel
theorem dX1_proof_22 : decode cX1_proof 22 = .ok (.arraylength, 1) := by decide +kernel
theorem dX1_proof_23 : decode cX1_proof 23 = .ok (.if_icmp .ge 20, 3) := by decide +kernel
theorem dX1_proof_26 : decode cX1_proof 26 = .ok (.aload_n 2, 1) := by decide +kernel
theorem dX1_proof_27 : decode cX1_proof 27 = .ok (.iload_n 3, 1) := by decide +kernel
theorem dX1_proof_28 : decode cX1_proof 28 = .ok (.aload_n 0, 1) := by decide +kernel
theorem dX1_proof_29 : decode cX1_proof 29 = .ok (.getfield 15, 3) := by decide +kernel
theorem dX1_proof_32 : decode cX1_proof 32 = .ok (.iload_n 1, 1) := by decide +kernel
theorem dX1_proof_33 : decode cX1_proof 33 = .ok (.aaload, 1) := by decide +kernel
theorem dX1_proof_34 : decode cX1_proof 34 = .ok (.iload_n 3, 1) := by decide +kernel
theorem dX1_proof_35 : decode cX1_proof 35 = .ok (.aaload, 1) := by decide +kernel
theorem dX1_proof_36 : decode cX1_proof 36 = .ok (.aastore, 1) := by decide +kernel
theorem dX1_proof_37 : decode cX1_proof 37 = .ok (.iinc 3 1, 3) := by decide +kernel
theorem dX1_proof_40 : decode cX1_proof 40 = .ok (.goto (-25), 3) := by decide +kernel
theorem dX1_proof_43 : decode cX1_proof 43 = .ok (.aload_n 2, 1) := by decide +kernel
theorem dX1_proof_44 : decode cX1_proof 44 = .ok (.aload_n 0, 1) := by decide +kernel
theorem dX1_proof_45 : decode cX1_proof 45 = .ok (.getfield 15, 3) := by decide +kernel
theorem dX1_proof_48 : decode cX1_proof 48 = .ok (.iload_n 1, 1) := by decide +kernel
theorem dX1_proof_49 : decode cX1_proof 49 = .ok (.aaload, 1) := by decide +kernel
theorem dX1_proof_50 : decode cX1_proof 50 = .ok (.arraylength, 1) := by decide +kernel
theorem dX1_proof_51 : decode cX1_proof 51 = .ok (.iconst 0, 1) := by decide +kernel
theorem dX1_proof_52 : decode cX1_proof 52 = .ok (.anewarray 19, 3) := by decide +kernel
theorem dX1_proof_55 : decode cX1_proof 55 = .ok (.aastore, 1) := by decide +kernel
theorem dX1_proof_56 : decode cX1_proof 56 = .ok (.aload_n 0, 1) := by decide +kernel
theorem dX1_proof_57 : decode cX1_proof 57 = .ok (.getfield 15, 3) := by decide +kernel
theorem dX1_proof_60 : decode cX1_proof 60 = .ok (.iload_n 1, 1) := by decide +kernel
theorem dX1_proof_61 : decode cX1_proof 61 = .ok (.aload_n 2, 1) := by decide +kernel
theorem dX1_proof_62 : decode cX1_proof 62 = .ok (.aastore, 1) := by decide +kernel
theorem dX1_proof_63 : decode cX1_proof 63 = .ok (.return_, 1) := by decide +kernel
theorem dX1_strike_0 : decode cX1_strike 0 = .ok (.aload_n 0, 1) := by decide +kernel
theorem dX1_strike_1 : decode cX1_strike 1 = .ok (.getfield 15, 3) := by decide +kernel
theorem dX1_strike_4 : decode cX1_strike 4 = .ok (.iload_n 1, 1) := by decide +kernel
theorem dX1_strike_5 : decode cX1_strike 5 = .ok (.aaload, 1) := by decide +kernel
theorem dX1_strike_6 : decode cX1_strike 6 = .ok (.arraylength, 1) := by decide +kernel
theorem dX1_strike_7 : decode cX1_strike 7 = .ok (.iconst 1, 1) := by decide +kernel
theorem dX1_strike_8 : decode cX1_strike 8 = .ok (.isub, 1) := by decide +kernel
theorem dX1_strike_9 : decode cX1_strike 9 = .ok (.anewarray 21, 3) := by decide +kernel
theorem dX1_strike_12 : decode cX1_strike 12 = .ok (.astore_n 3, 1) := by decide +kernel
theorem dX1_strike_13 : decode cX1_strike 13 = .ok (.iconst 0, 1) := by decide +kernel
theorem dX1_strike_14 : decode cX1_strike 14 = .ok (.istore 4, 2) := by decide +kernel
theorem dX1_strike_16 : decode cX1_strike 16 = .ok (.iload 4, 2) := by decide +kernel
theorem dX1_strike_18 : decode cX1_strike 18 = .ok (.aload_n 3, 1) := by decide +kernel
theorem dX1_strike_19 : decode cX1_strike 19 = .ok (.arraylength, 1) := by decide +kernel
theorem dX1_strike_20 : decode cX1_strike 20 = .ok (.if_icmp .ge 35, 3) := by decide +kernel
theorem dX1_strike_23 : decode cX1_strike 23 = .ok (.aload_n 3, 1) := by decide +kernel
theorem dX1_strike_24 : decode cX1_strike 24 = .ok (.iload 4, 2) := by decide +kernel
theorem dX1_strike_26 : decode cX1_strike 26 = .ok (.aload_n 0, 1) := by decide +kernel
theorem dX1_strike_27 : decode cX1_strike 27 = .ok (.getfield 15, 3) := by decide +kernel
theorem dX1_strike_30 : decode cX1_strike 30 = .ok (.iload_n 1, 1) := by decide +kernel
theorem dX1_strike_31 : decode cX1_strike 31 = .ok (.aaload, 1) := by decide +kernel
theorem dX1_strike_32 : decode cX1_strike 32 = .ok (.iload 4, 2) := by decide +kernel
theorem dX1_strike_34 : decode cX1_strike 34 = .ok (.iload_n 2, 1) := by decide +kernel
theorem dX1_strike_35 : decode cX1_strike 35 = .ok (.if_icmp .ge 8, 3) := by decide +kernel
theorem dX1_strike_38 : decode cX1_strike 38 = .ok (.iload 4, 2) := by decide +kernel
theorem dX1_strike_40 : decode cX1_strike 40 = .ok (.goto 7, 3) := by decide +kernel
theorem dX1_strike_43 : decode cX1_strike 43 = .ok (.iload 4, 2) := by decide +kernel
theorem dX1_strike_45 : decode cX1_strike 45 = .ok (.iconst 1, 1) := by decide +kernel
theorem dX1_strike_46 : decode cX1_strike 46 = .ok (.iadd, 1) := by decide +kernel
theorem dX1_strike_47 : decode cX1_strike 47 = .ok (.aaload, 1) := by decide +kernel
theorem dX1_strike_48 : decode cX1_strike 48 = .ok (.aastore, 1) := by decide +kernel
theorem dX1_strike_49 : decode cX1_strike 49 = .ok (.iinc 4 1, 3) := by decide +kernel
theorem dX1_strike_52 : decode cX1_strike 52 = .ok (.goto (-36), 3) := by decide +kernel
theorem dX1_strike_55 : decode cX1_strike 55 = .ok (.aload_n 0, 1) := by decide +kernel
theorem dX1_strike_56 : decode cX1_strike 56 = .ok (.getfield 15, 3) := by decide +kernel
theorem dX1_strike_59 : decode cX1_strike 59 = .ok (.iload_n 1, 1) := by decide +kernel
theorem dX1_strike_60 : decode cX1_strike 60 = .ok (.aload_n 3, 1) := by decide +kernel
theorem dX1_strike_61 : decode cX1_strike 61 = .ok (.aastore, 1) := by decide +kernel
theorem dX1_strike_62 : decode cX1_strike 62 = .ok (.return_, 1) := by decide +kernel
theorem dX1_isWhole_0 : decode cX1_isWhole 0 = .ok (.iconst 0, 1) := by decide +kernel
theorem dX1_isWhole_1 : decode cX1_isWhole 1 = .ok (.istore_n 1, 1) := by decide +kernel
theorem dX1_isWhole_2 : decode cX1_isWhole 2 = .ok (.aload_n 0, 1) := by decide +kernel
theorem dX1_isWhole_3 : decode cX1_isWhole 3 = .ok (.astore_n 2, 1) := by decide +kernel
theorem dX1_isWhole_4 : decode cX1_isWhole 4 = .ok (.aload_n 2, 1) := by decide +kernel
theorem dX1_isWhole_5 : decode cX1_isWhole 5 = .ok (.arraylength, 1) := by decide +kernel
theorem dX1_isWhole_6 : decode cX1_isWhole 6 = .ok (.istore_n 3, 1) := by decide +kernel
theorem dX1_isWhole_7 : decode cX1_isWhole 7 = .ok (.iconst 0, 1) := by decide +kernel
theorem dX1_isWhole_8 : decode cX1_isWhole 8 = .ok (.istore 4, 2) := by decide +kernel
theorem dX1_isWhole_10 : decode cX1_isWhole 10 = .ok (.iload 4, 2) := by decide +kernel
theorem dX1_isWhole_12 : decode cX1_isWhole 12 = .ok (.iload_n 3, 1) := by decide +kernel
theorem dX1_isWhole_13 : decode cX1_isWhole 13 = .ok (.if_icmp .ge 22, 3) := by decide +kernel
theorem dX1_isWhole_16 : decode cX1_isWhole 16 = .ok (.aload_n 2, 1) := by decide +kernel
theorem dX1_isWhole_17 : decode cX1_isWhole 17 = .ok (.iload 4, 2) := by decide +kernel
theorem dX1_isWhole_19 : decode cX1_isWhole 19 = .ok (.aaload, 1) := by decide +kernel
theorem dX1_isWhole_20 : decode cX1_isWhole 20 = .ok (.astore 5, 2) := by decide +kernel
theorem dX1_isWhole_22 : decode cX1_isWhole 22 = .ok (.iload_n 1, 1) := by decide +kernel
theorem dX1_isWhole_23 : decode cX1_isWhole 23 = .ok (.aload 5, 2) := by decide +kernel
theorem dX1_isWhole_25 : decode cX1_isWhole 25 = .ok (.iconst 3, 1) := by decide +kernel
theorem dX1_isWhole_26 : decode cX1_isWhole 26 = .ok (.iaload, 1) := by decide +kernel
theorem dX1_isWhole_27 : decode cX1_isWhole 27 = .ok (.iadd, 1) := by decide +kernel
theorem dX1_isWhole_28 : decode cX1_isWhole 28 = .ok (.istore_n 1, 1) := by decide +kernel
theorem dX1_isWhole_29 : decode cX1_isWhole 29 = .ok (.iinc 4 1, 3) := by decide +kernel
theorem dX1_isWhole_32 : decode cX1_isWhole 32 = .ok (.goto (-22), 3) := by decide +kernel
theorem dX1_isWhole_35 : decode cX1_isWhole 35 = .ok (.aload_n 0, 1) := by decide +kernel
theorem dX1_isWhole_36 : decode cX1_isWhole 36 = .ok (.arraylength, 1) := by decide +kernel
theorem dX1_isWhole_37 : decode cX1_isWhole 37 = .ok (.ifCond .le 11, 3) := by decide +kernel
theorem dX1_isWhole_40 : decode cX1_isWhole 40 = .ok (.iload_n 1, 1) := by decide +kernel
theorem dX1_isWhole_41 : decode cX1_isWhole 41 = .ok (.ifCond .ne 7, 3) := by decide +kernel
theorem dX1_isWhole_44 : decode cX1_isWhole 44 = .ok (.iconst 1, 1) := by decide +kernel
theorem dX1_isWhole_45 : decode cX1_isWhole 45 = .ok (.goto 4, 3) := by decide +kernel
theorem dX1_isWhole_48 : decode cX1_isWhole 48 = .ok (.iconst 0, 1) := by decide +kernel
theorem dX1_isWhole_49 : decode cX1_isWhole 49 = .ok (.ireturn, 1) := by decide +kernel
theorem dX1_holds_0 : decode cX1_holds 0 = .ok (.aload_n 1, 1) := by decide +kernel
theorem dX1_holds_1 : decode cX1_holds 1 = .ok (.invokestatic 23, 3) := by decide +kernel
theorem dX1_holds_4 : decode cX1_holds 4 = .ok (.istore_n 3, 1) := by decide +kernel
theorem dX1_holds_5 : decode cX1_holds 5 = .ok (.aload_n 1, 1) := by decide +kernel
theorem dX1_holds_6 : decode cX1_holds 6 = .ok (.astore 4, 2) := by decide +kernel
theorem dX1_holds_8 : decode cX1_holds 8 = .ok (.aload 4, 2) := by decide +kernel
theorem dX1_holds_10 : decode cX1_holds 10 = .ok (.arraylength, 1) := by decide +kernel
theorem dX1_holds_11 : decode cX1_holds 11 = .ok (.istore 5, 2) := by decide +kernel
theorem dX1_holds_13 : decode cX1_holds 13 = .ok (.iconst 0, 1) := by decide +kernel
theorem dX1_holds_14 : decode cX1_holds 14 = .ok (.istore 6, 2) := by decide +kernel
theorem dX1_holds_16 : decode cX1_holds 16 = .ok (.iload 6, 2) := by decide +kernel
theorem dX1_holds_18 : decode cX1_holds 18 = .ok (.iload 5, 2) := by decide +kernel
theorem dX1_holds_20 : decode cX1_holds 20 = .ok (.if_icmp .ge 75, 3) := by decide +kernel
theorem dX1_holds_23 : decode cX1_holds 23 = .ok (.aload 4, 2) := by decide +kernel
theorem dX1_holds_25 : decode cX1_holds 25 = .ok (.iload 6, 2) := by decide +kernel
theorem dX1_holds_27 : decode cX1_holds 27 = .ok (.aaload, 1) := by decide +kernel
theorem dX1_holds_28 : decode cX1_holds 28 = .ok (.astore 7, 2) := by decide +kernel
theorem dX1_holds_30 : decode cX1_holds 30 = .ok (.iload_n 3, 1) := by decide +kernel
theorem dX1_holds_31 : decode cX1_holds 31 = .ok (.aload 7, 2) := by decide +kernel
theorem dX1_holds_33 : decode cX1_holds 33 = .ok (.iconst 0, 1) := by decide +kernel
theorem dX1_holds_34 : decode cX1_holds 34 = .ok (.iaload, 1) := by decide +kernel
theorem dX1_holds_35 : decode cX1_holds 35 = .ok (.ifCond .ne 15, 3) := by decide +kernel
theorem dX1_holds_38 : decode cX1_holds 38 = .ok (.aload_n 0, 1) := by decide +kernel
theorem dX1_holds_39 : decode cX1_holds 39 = .ok (.getfield 7, 3) := by decide +kernel
theorem dX1_holds_42 : decode cX1_holds 42 = .ok (.aload 7, 2) := by decide +kernel
theorem dX1_holds_44 : decode cX1_holds 44 = .ok (.iconst 1, 1) := by decide +kernel
theorem dX1_holds_45 : decode cX1_holds 45 = .ok (.iaload, 1) := by decide +kernel
theorem dX1_holds_46 : decode cX1_holds 46 = .ok (.baload, 1) := by decide +kernel
theorem dX1_holds_47 : decode cX1_holds 47 = .ok (.goto 40, 3) := by decide +kernel
theorem dX1_holds_50 : decode cX1_holds 50 = .ok (.aload 7, 2) := by decide +kernel
theorem dX1_holds_52 : decode cX1_holds 52 = .ok (.iconst 0, 1) := by decide +kernel
theorem dX1_holds_53 : decode cX1_holds 53 = .ok (.iaload, 1) := by decide +kernel
theorem dX1_holds_54 : decode cX1_holds 54 = .ok (.iconst 1, 1) := by decide +kernel
theorem dX1_holds_55 : decode cX1_holds 55 = .ok (.if_icmp .ne 20, 3) := by decide +kernel
theorem dX1_holds_58 : decode cX1_holds 58 = .ok (.aload_n 2, 1) := by decide +kernel
theorem dX1_holds_59 : decode cX1_holds 59 = .ok (.aload 7, 2) := by decide +kernel
theorem dX1_holds_61 : decode cX1_holds 61 = .ok (.iconst 1, 1) := by decide +kernel
theorem dX1_holds_62 : decode cX1_holds 62 = .ok (.iaload, 1) := by decide +kernel
theorem dX1_holds_63 : decode cX1_holds 63 = .ok (.iaload, 1) := by decide +kernel
theorem dX1_holds_64 : decode cX1_holds 64 = .ok (.ifCond .le 7, 3) := by decide +kernel
theorem dX1_holds_67 : decode cX1_holds 67 = .ok (.iconst 1, 1) := by decide +kernel
theorem dX1_holds_68 : decode cX1_holds 68 = .ok (.goto 19, 3) := by decide +kernel
theorem dX1_holds_71 : decode cX1_holds 71 = .ok (.iconst 0, 1) := by decide +kernel
theorem dX1_holds_72 : decode cX1_holds 72 = .ok (.goto 15, 3) := by decide +kernel
theorem dX1_holds_75 : decode cX1_holds 75 = .ok (.aload 7, 2) := by decide +kernel
theorem dX1_holds_77 : decode cX1_holds 77 = .ok (.iconst 2, 1) := by decide +kernel
theorem dX1_holds_78 : decode cX1_holds 78 = .ok (.iaload, 1) := by decide +kernel
theorem dX1_holds_79 : decode cX1_holds 79 = .ok (.ifCond .ne 7, 3) := by decide +kernel
theorem dX1_holds_82 : decode cX1_holds 82 = .ok (.iconst 1, 1) := by decide +kernel
theorem dX1_holds_83 : decode cX1_holds 83 = .ok (.goto 4, 3) := by decide +kernel
theorem dX1_holds_86 : decode cX1_holds 86 = .ok (.iconst 0, 1) := by decide +kernel
theorem dX1_holds_87 : decode cX1_holds 87 = .ok (.iand, 1) := by decide +kernel
theorem dX1_holds_88 : decode cX1_holds 88 = .ok (.istore_n 3, 1) := by decide +kernel
theorem dX1_holds_89 : decode cX1_holds 89 = .ok (.iinc 6 1, 3) := by decide +kernel
theorem dX1_holds_92 : decode cX1_holds 92 = .ok (.goto (-76), 3) := by decide +kernel
theorem dX1_holds_95 : decode cX1_holds 95 = .ok (.iload_n 3, 1) := by decide +kernel
theorem dX1_holds_96 : decode cX1_holds 96 = .ok (.ireturn, 1) := by decide +kernel
theorem dX1_stages_0 : decode cX1_stages 0 = .ok (.aload_n 0, 1) := by decide +kernel
theorem dX1_stages_1 : decode cX1_stages 1 = .ok (.getfield 15, 3) := by decide +kernel
theorem dX1_stages_4 : decode cX1_stages 4 = .ok (.arraylength, 1) := by decide +kernel
theorem dX1_stages_5 : decode cX1_stages 5 = .ok (.newarray .int, 2) := by decide +kernel
theorem dX1_stages_7 : decode cX1_stages 7 = .ok (.astore_n 2, 1) := by decide +kernel
theorem dX1_stages_8 : decode cX1_stages 8 = .ok (.iconst 1, 1) := by decide +kernel
theorem dX1_stages_9 : decode cX1_stages 9 = .ok (.istore_n 3, 1) := by decide +kernel
theorem dX1_stages_10 : decode cX1_stages 10 = .ok (.iload_n 3, 1) := by decide +kernel
theorem dX1_stages_11 : decode cX1_stages 11 = .ok (.aload_n 0, 1) := by decide +kernel
theorem dX1_stages_12 : decode cX1_stages 12 = .ok (.getfield 15, 3) := by decide +kernel
theorem dX1_stages_15 : decode cX1_stages 15 = .ok (.arraylength, 1) := by decide +kernel
theorem dX1_stages_16 : decode cX1_stages 16 = .ok (.if_icmp .gt 106, 3) := by decide +kernel
theorem dX1_stages_19 : decode cX1_stages 19 = .ok (.aload_n 2, 1) := by decide +kernel
theorem dX1_stages_20 : decode cX1_stages 20 = .ok (.invokevirtual 27, 3) := by decide +kernel
theorem dX1_stages_23 : decode cX1_stages 23 = .ok (.checkcast 19, 3) := by decide +kernel
theorem dX1_stages_26 : decode cX1_stages 26 = .ok (.astore 4, 2) := by decide +kernel
theorem dX1_stages_28 : decode cX1_stages 28 = .ok (.iconst 0, 1) := by decide +kernel
theorem dX1_stages_29 : decode cX1_stages 29 = .ok (.istore 5, 2) := by decide +kernel
theorem dX1_stages_31 : decode cX1_stages 31 = .ok (.iload 5, 2) := by decide +kernel
theorem dX1_stages_33 : decode cX1_stages 33 = .ok (.aload_n 0, 1) := by decide +kernel
theorem dX1_stages_34 : decode cX1_stages 34 = .ok (.getfield 15, 3) := by decide +kernel
theorem dX1_stages_37 : decode cX1_stages 37 = .ok (.arraylength, 1) := by decide +kernel
theorem dX1_stages_38 : decode cX1_stages 38 = .ok (.if_icmp .ge 75, 3) := by decide +kernel
theorem dX1_stages_41 : decode cX1_stages 41 = .ok (.aload_n 0, 1) := by decide +kernel
theorem dX1_stages_42 : decode cX1_stages 42 = .ok (.getfield 15, 3) := by decide +kernel
theorem dX1_stages_45 : decode cX1_stages 45 = .ok (.iload 5, 2) := by decide +kernel
theorem dX1_stages_47 : decode cX1_stages 47 = .ok (.aaload, 1) := by decide +kernel
theorem dX1_stages_48 : decode cX1_stages 48 = .ok (.astore 6, 2) := by decide +kernel
theorem dX1_stages_50 : decode cX1_stages 50 = .ok (.aload 6, 2) := by decide +kernel
theorem dX1_stages_52 : decode cX1_stages 52 = .ok (.arraylength, 1) := by decide +kernel
theorem dX1_stages_53 : decode cX1_stages 53 = .ok (.istore 7, 2) := by decide +kernel
theorem dX1_stages_55 : decode cX1_stages 55 = .ok (.iconst 0, 1) := by decide +kernel
theorem dX1_stages_56 : decode cX1_stages 56 = .ok (.istore 8, 2) := by decide +kernel
theorem dX1_stages_58 : decode cX1_stages 58 = .ok (.iload 8, 2) := by decide +kernel
theorem dX1_stages_60 : decode cX1_stages 60 = .ok (.iload 7, 2) := by decide +kernel
theorem dX1_stages_62 : decode cX1_stages 62 = .ok (.if_icmp .ge 45, 3) := by decide +kernel
theorem dX1_stages_65 : decode cX1_stages 65 = .ok (.aload 6, 2) := by decide +kernel
theorem dX1_stages_67 : decode cX1_stages 67 = .ok (.iload 8, 2) := by decide +kernel
theorem dX1_stages_69 : decode cX1_stages 69 = .ok (.aaload, 1) := by decide +kernel
theorem dX1_stages_70 : decode cX1_stages 70 = .ok (.astore 9, 2) := by decide +kernel
theorem dX1_stages_72 : decode cX1_stages 72 = .ok (.aload_n 2, 1) := by decide +kernel
theorem dX1_stages_73 : decode cX1_stages 73 = .ok (.iload 5, 2) := by decide +kernel
theorem dX1_stages_75 : decode cX1_stages 75 = .ok (.iaload, 1) := by decide +kernel
theorem dX1_stages_76 : decode cX1_stages 76 = .ok (.ifCond .ne 25, 3) := by decide +kernel
theorem dX1_stages_79 : decode cX1_stages 79 = .ok (.iload 5, 2) := by decide +kernel
theorem dX1_stages_81 : decode cX1_stages 81 = .ok (.iload_n 1, 1) := by decide +kernel
theorem dX1_stages_82 : decode cX1_stages 82 = .ok (.if_icmp .eq 19, 3) := by decide +kernel
theorem dX1_stages_85 : decode cX1_stages 85 = .ok (.aload_n 0, 1) := by decide +kernel
theorem dX1_stages_86 : decode cX1_stages 86 = .ok (.aload 9, 2) := by decide +kernel
theorem dX1_stages_88 : decode cX1_stages 88 = .ok (.aload_n 2, 1) := by decide +kernel
theorem dX1_stages_89 : decode cX1_stages 89 = .ok (.invokevirtual 31, 3) := by decide +kernel
theorem dX1_stages_92 : decode cX1_stages 92 = .ok (.ifCond .eq 9, 3) := by decide +kernel
theorem dX1_stages_95 : decode cX1_stages 95 = .ok (.aload 4, 2) := by decide +kernel
theorem dX1_stages_97 : decode cX1_stages 97 = .ok (.iload 5, 2) := by decide +kernel
theorem dX1_stages_99 : decode cX1_stages 99 = .ok (.iload_n 3, 1) := by decide +kernel
theorem dX1_stages_100 : decode cX1_stages 100 = .ok (.iastore, 1) := by decide +kernel
theorem dX1_stages_101 : decode cX1_stages 101 = .ok (.iinc 8 1, 3) := by decide +kernel
theorem dX1_stages_104 : decode cX1_stages 104 = .ok (.goto (-46), 3) := by decide +kernel
theorem dX1_stages_107 : decode cX1_stages 107 = .ok (.iinc 5 1, 3) := by decide +kernel
theorem dX1_stages_110 : decode cX1_stages 110 = .ok (.goto (-79), 3) := by decide +kernel
theorem dX1_stages_113 : decode cX1_stages 113 = .ok (.aload 4, 2) := by decide +kernel
theorem dX1_stages_115 : decode cX1_stages 115 = .ok (.astore_n 2, 1) := by decide +kernel
theorem dX1_stages_116 : decode cX1_stages 116 = .ok (.iinc 3 1, 3) := by decide +kernel
theorem dX1_stages_119 : decode cX1_stages 119 = .ok (.goto (-109), 3) := by decide +kernel
theorem dX1_stages_122 : decode cX1_stages 122 = .ok (.aload_n 2, 1) := by decide +kernel
theorem dX1_stages_123 : decode cX1_stages 123 = .ok (.areturn, 1) := by decide +kernel
theorem dX1_measure_0 : decode cX1_measure 0 = .ok (.aload_n 1, 1) := by decide +kernel
theorem dX1_measure_1 : decode cX1_measure 1 = .ok (.invokestatic 23, 3) := by decide +kernel
theorem dX1_measure_4 : decode cX1_measure 4 = .ok (.ifCond .ne 6, 3) := by decide +kernel
theorem dX1_measure_7 : decode cX1_measure 7 = .ok (.ldc 39, 2) := by decide +kernel
theorem dX1_measure_9 : decode cX1_measure 9 = .ok (.ireturn, 1) := by decide +kernel
theorem dX1_measure_10 : decode cX1_measure 10 = .ok (.iconst 0, 1) := by decide +kernel
theorem dX1_measure_11 : decode cX1_measure 11 = .ok (.istore 4, 2) := by decide +kernel
theorem dX1_measure_13 : decode cX1_measure 13 = .ok (.aload_n 1, 1) := by decide +kernel
theorem dX1_measure_14 : decode cX1_measure 14 = .ok (.astore 5, 2) := by decide +kernel
theorem dX1_measure_16 : decode cX1_measure 16 = .ok (.aload 5, 2) := by decide +kernel
theorem dX1_measure_18 : decode cX1_measure 18 = .ok (.arraylength, 1) := by decide +kernel
theorem dX1_measure_19 : decode cX1_measure 19 = .ok (.istore 6, 2) := by decide +kernel
theorem dX1_measure_21 : decode cX1_measure 21 = .ok (.iconst 0, 1) := by decide +kernel
theorem dX1_measure_22 : decode cX1_measure 22 = .ok (.istore 7, 2) := by decide +kernel
theorem dX1_measure_24 : decode cX1_measure 24 = .ok (.iload 7, 2) := by decide +kernel
theorem dX1_measure_26 : decode cX1_measure 26 = .ok (.iload 6, 2) := by decide +kernel
theorem dX1_measure_28 : decode cX1_measure 28 = .ok (.if_icmp .ge 127, 3) := by decide +kernel
theorem dX1_measure_31 : decode cX1_measure 31 = .ok (.aload 5, 2) := by decide +kernel
theorem dX1_measure_33 : decode cX1_measure 33 = .ok (.iload 7, 2) := by decide +kernel
theorem dX1_measure_35 : decode cX1_measure 35 = .ok (.aaload, 1) := by decide +kernel
theorem dX1_measure_36 : decode cX1_measure 36 = .ok (.astore 8, 2) := by decide +kernel
theorem dX1_measure_38 : decode cX1_measure 38 = .ok (.iload_n 3, 1) := by decide +kernel
theorem dX1_measure_39 : decode cX1_measure 39 = .ok (.ifCond .ne 6, 3) := by decide +kernel
theorem dX1_measure_42 : decode cX1_measure 42 = .ok (.iinc 4 1, 3) := by decide +kernel
theorem dX1_measure_45 : decode cX1_measure 45 = .ok (.aload 8, 2) := by decide +kernel
theorem dX1_measure_47 : decode cX1_measure 47 = .ok (.iconst 0, 1) := by decide +kernel
theorem dX1_measure_48 : decode cX1_measure 48 = .ok (.iaload, 1) := by decide +kernel
theorem dX1_measure_49 : decode cX1_measure 49 = .ok (.ifCond .ne 15, 3) := by decide +kernel
theorem dX1_measure_52 : decode cX1_measure 52 = .ok (.aload_n 0, 1) := by decide +kernel
theorem dX1_measure_53 : decode cX1_measure 53 = .ok (.getfield 7, 3) := by decide +kernel
theorem dX1_measure_56 : decode cX1_measure 56 = .ok (.aload 8, 2) := by decide +kernel
theorem dX1_measure_58 : decode cX1_measure 58 = .ok (.iconst 1, 1) := by decide +kernel
theorem dX1_measure_59 : decode cX1_measure 59 = .ok (.iaload, 1) := by decide +kernel
theorem dX1_measure_60 : decode cX1_measure 60 = .ok (.baload, 1) := by decide +kernel
theorem dX1_measure_61 : decode cX1_measure 61 = .ok (.ifCond .eq 42, 3) := by decide +kernel
theorem dX1_measure_64 : decode cX1_measure 64 = .ok (.aload 8, 2) := by decide +kernel
theorem dX1_measure_66 : decode cX1_measure 66 = .ok (.iconst 0, 1) := by decide +kernel
theorem dX1_measure_67 : decode cX1_measure 67 = .ok (.iaload, 1) := by decide +kernel
theorem dX1_measure_68 : decode cX1_measure 68 = .ok (.iconst 1, 1) := by decide +kernel
theorem dX1_measure_69 : decode cX1_measure 69 = .ok (.if_icmp .ne 15, 3) := by decide +kernel
theorem dX1_measure_72 : decode cX1_measure 72 = .ok (.aload_n 2, 1) := by decide +kernel
theorem dX1_measure_73 : decode cX1_measure 73 = .ok (.aload 8, 2) := by decide +kernel
theorem dX1_measure_75 : decode cX1_measure 75 = .ok (.iconst 1, 1) := by decide +kernel
theorem dX1_measure_76 : decode cX1_measure 76 = .ok (.iaload, 1) := by decide +kernel
theorem dX1_measure_77 : decode cX1_measure 77 = .ok (.iaload, 1) := by decide +kernel
theorem dX1_measure_78 : decode cX1_measure 78 = .ok (.sipush 9998, 3) := by decide +kernel
theorem dX1_measure_81 : decode cX1_measure 81 = .ok (.if_icmp .gt 22, 3) := by decide +kernel
theorem dX1_measure_84 : decode cX1_measure 84 = .ok (.aload 8, 2) := by decide +kernel
theorem dX1_measure_86 : decode cX1_measure 86 = .ok (.iconst 0, 1) := by decide +kernel
theorem dX1_measure_87 : decode cX1_measure 87 = .ok (.iaload, 1) := by decide +kernel
theorem dX1_measure_88 : decode cX1_measure 88 = .ok (.iconst 2, 1) := by decide +kernel
theorem dX1_measure_89 : decode cX1_measure 89 = .ok (.if_icmp .ne 17, 3) := by decide +kernel
theorem dX1_measure_92 : decode cX1_measure 92 = .ok (.iload_n 3, 1) := by decide +kernel
theorem dX1_measure_93 : decode cX1_measure 93 = .ok (.ifCond .ne 13, 3) := by decide +kernel
theorem dX1_measure_96 : decode cX1_measure 96 = .ok (.aload 8, 2) := by decide +kernel
theorem dX1_measure_98 : decode cX1_measure 98 = .ok (.iconst 2, 1) := by decide +kernel
theorem dX1_measure_99 : decode cX1_measure 99 = .ok (.iaload, 1) := by decide +kernel
theorem dX1_measure_100 : decode cX1_measure 100 = .ok (.ifCond .le 6, 3) := by decide +kernel
theorem dX1_measure_103 : decode cX1_measure 103 = .ok (.ldc 39, 2) := by decide +kernel
theorem dX1_measure_105 : decode cX1_measure 105 = .ok (.ireturn, 1) := by decide +kernel
theorem dX1_measure_106 : decode cX1_measure 106 = .ok (.iload 4, 2) := by decide +kernel
theorem dX1_measure_108 : decode cX1_measure 108 = .ok (.aload 8, 2) := by decide +kernel
theorem dX1_measure_110 : decode cX1_measure 110 = .ok (.iconst 0, 1) := by decide +kernel
theorem dX1_measure_111 : decode cX1_measure 111 = .ok (.iaload, 1) := by decide +kernel
theorem dX1_measure_112 : decode cX1_measure 112 = .ok (.iconst 1, 1) := by decide +kernel
theorem dX1_measure_113 : decode cX1_measure 113 = .ok (.if_icmp .ne 12, 3) := by decide +kernel
theorem dX1_measure_116 : decode cX1_measure 116 = .ok (.aload_n 2, 1) := by decide +kernel
theorem dX1_measure_117 : decode cX1_measure 117 = .ok (.aload 8, 2) := by decide +kernel
theorem dX1_measure_119 : decode cX1_measure 119 = .ok (.iconst 1, 1) := by decide +kernel
theorem dX1_measure_120 : decode cX1_measure 120 = .ok (.iaload, 1) := by decide +kernel
theorem dX1_measure_121 : decode cX1_measure 121 = .ok (.iaload, 1) := by decide +kernel
theorem dX1_measure_122 : decode cX1_measure 122 = .ok (.goto 24, 3) := by decide +kernel
theorem dX1_measure_125 : decode cX1_measure 125 = .ok (.aload 8, 2) := by decide +kernel
theorem dX1_measure_127 : decode cX1_measure 127 = .ok (.iconst 0, 1) := by decide +kernel
theorem dX1_measure_128 : decode cX1_measure 128 = .ok (.iaload, 1) := by decide +kernel
theorem dX1_measure_129 : decode cX1_measure 129 = .ok (.iconst 2, 1) := by decide +kernel
theorem dX1_measure_130 : decode cX1_measure 130 = .ok (.if_icmp .ne 15, 3) := by decide +kernel
theorem dX1_measure_133 : decode cX1_measure 133 = .ok (.iload_n 3, 1) := by decide +kernel
theorem dX1_measure_134 : decode cX1_measure 134 = .ok (.iconst 1, 1) := by decide +kernel
theorem dX1_measure_135 : decode cX1_measure 135 = .ok (.if_icmp .ne 10, 3) := by decide +kernel
theorem dX1_measure_138 : decode cX1_measure 138 = .ok (.aload 8, 2) := by decide +kernel
theorem dX1_measure_140 : decode cX1_measure 140 = .ok (.iconst 2, 1) := by decide +kernel
theorem dX1_measure_141 : decode cX1_measure 141 = .ok (.iaload, 1) := by decide +kernel
theorem dX1_measure_142 : decode cX1_measure 142 = .ok (.goto 4, 3) := by decide +kernel
theorem dX1_measure_145 : decode cX1_measure 145 = .ok (.iconst 0, 1) := by decide +kernel
theorem dX1_measure_146 : decode cX1_measure 146 = .ok (.iadd, 1) := by decide +kernel
theorem dX1_measure_147 : decode cX1_measure 147 = .ok (.istore 4, 2) := by decide +kernel
theorem dX1_measure_149 : decode cX1_measure 149 = .ok (.iinc 7 1, 3) := by decide +kernel
theorem dX1_measure_152 : decode cX1_measure 152 = .ok (.goto (-128), 3) := by decide +kernel
theorem dX1_measure_155 : decode cX1_measure 155 = .ok (.iload 4, 2) := by decide +kernel
theorem dX1_measure_157 : decode cX1_measure 157 = .ok (.sipush 9998, 3) := by decide +kernel
theorem dX1_measure_160 : decode cX1_measure 160 = .ok (.if_icmp .le 8, 3) := by decide +kernel
theorem dX1_measure_163 : decode cX1_measure 163 = .ok (.ldc 39, 2) := by decide +kernel
theorem dX1_measure_165 : decode cX1_measure 165 = .ok (.goto 5, 3) := by decide +kernel
theorem dX1_measure_168 : decode cX1_measure 168 = .ok (.iload 4, 2) := by decide +kernel
theorem dX1_measure_170 : decode cX1_measure 170 = .ok (.ireturn, 1) := by decide +kernel
theorem dX1_measures_0 : decode cX1_measures 0 = .ok (.aload_n 0, 1) := by decide +kernel
theorem dX1_measures_1 : decode cX1_measures 1 = .ok (.getfield 15, 3) := by decide +kernel
theorem dX1_measures_4 : decode cX1_measures 4 = .ok (.arraylength, 1) := by decide +kernel
theorem dX1_measures_5 : decode cX1_measures 5 = .ok (.newarray .int, 2) := by decide +kernel
theorem dX1_measures_7 : decode cX1_measures 7 = .ok (.astore_n 2, 1) := by decide +kernel
theorem dX1_measures_8 : decode cX1_measures 8 = .ok (.iconst 0, 1) := by decide +kernel
theorem dX1_measures_9 : decode cX1_measures 9 = .ok (.istore_n 3, 1) := by decide +kernel
theorem dX1_measures_10 : decode cX1_measures 10 = .ok (.iload_n 3, 1) := by decide +kernel
theorem dX1_measures_11 : decode cX1_measures 11 = .ok (.aload_n 2, 1) := by decide +kernel
theorem dX1_measures_12 : decode cX1_measures 12 = .ok (.arraylength, 1) := by decide +kernel
theorem dX1_measures_13 : decode cX1_measures 13 = .ok (.if_icmp .ge 14, 3) := by decide +kernel
theorem dX1_measures_16 : decode cX1_measures 16 = .ok (.aload_n 2, 1) := by decide +kernel
theorem dX1_measures_17 : decode cX1_measures 17 = .ok (.iload_n 3, 1) := by decide +kernel
theorem dX1_measures_18 : decode cX1_measures 18 = .ok (.ldc 39, 2) := by decide +kernel
theorem dX1_measures_20 : decode cX1_measures 20 = .ok (.iastore, 1) := by decide +kernel
theorem dX1_measures_21 : decode cX1_measures 21 = .ok (.iinc 3 1, 3) := by decide +kernel
theorem dX1_measures_24 : decode cX1_measures 24 = .ok (.goto (-14), 3) := by decide +kernel
theorem dX1_measures_27 : decode cX1_measures 27 = .ok (.iconst 0, 1) := by decide +kernel
theorem dX1_measures_28 : decode cX1_measures 28 = .ok (.istore_n 3, 1) := by decide +kernel
theorem dX1_measures_29 : decode cX1_measures 29 = .ok (.iload_n 3, 1) := by decide +kernel
theorem dX1_measures_30 : decode cX1_measures 30 = .ok (.aload_n 0, 1) := by decide +kernel
theorem dX1_measures_31 : decode cX1_measures 31 = .ok (.getfield 15, 3) := by decide +kernel
theorem dX1_measures_34 : decode cX1_measures 34 = .ok (.arraylength, 1) := by decide +kernel
theorem dX1_measures_35 : decode cX1_measures 35 = .ok (.if_icmp .gt 98, 3) := by decide +kernel
theorem dX1_measures_38 : decode cX1_measures 38 = .ok (.aload_n 2, 1) := by decide +kernel
theorem dX1_measures_39 : decode cX1_measures 39 = .ok (.invokevirtual 27, 3) := by decide +kernel
theorem dX1_measures_42 : decode cX1_measures 42 = .ok (.checkcast 19, 3) := by decide +kernel
theorem dX1_measures_45 : decode cX1_measures 45 = .ok (.astore 4, 2) := by decide +kernel
theorem dX1_measures_47 : decode cX1_measures 47 = .ok (.iconst 0, 1) := by decide +kernel
theorem dX1_measures_48 : decode cX1_measures 48 = .ok (.istore 5, 2) := by decide +kernel
theorem dX1_measures_50 : decode cX1_measures 50 = .ok (.iload 5, 2) := by decide +kernel
theorem dX1_measures_52 : decode cX1_measures 52 = .ok (.aload_n 0, 1) := by decide +kernel
theorem dX1_measures_53 : decode cX1_measures 53 = .ok (.getfield 15, 3) := by decide +kernel
theorem dX1_measures_56 : decode cX1_measures 56 = .ok (.arraylength, 1) := by decide +kernel
theorem dX1_measures_57 : decode cX1_measures 57 = .ok (.if_icmp .ge 67, 3) := by decide +kernel
theorem dX1_measures_60 : decode cX1_measures 60 = .ok (.aload_n 0, 1) := by decide +kernel
theorem dX1_measures_61 : decode cX1_measures 61 = .ok (.getfield 15, 3) := by decide +kernel
theorem dX1_measures_64 : decode cX1_measures 64 = .ok (.iload 5, 2) := by decide +kernel
theorem dX1_measures_66 : decode cX1_measures 66 = .ok (.aaload, 1) := by decide +kernel
theorem dX1_measures_67 : decode cX1_measures 67 = .ok (.astore 6, 2) := by decide +kernel
theorem dX1_measures_69 : decode cX1_measures 69 = .ok (.aload 6, 2) := by decide +kernel
theorem dX1_measures_71 : decode cX1_measures 71 = .ok (.arraylength, 1) := by decide +kernel
theorem dX1_measures_72 : decode cX1_measures 72 = .ok (.istore 7, 2) := by decide +kernel
theorem dX1_measures_74 : decode cX1_measures 74 = .ok (.iconst 0, 1) := by decide +kernel
theorem dX1_measures_75 : decode cX1_measures 75 = .ok (.istore 8, 2) := by decide +kernel
theorem dX1_measures_77 : decode cX1_measures 77 = .ok (.iload 8, 2) := by decide +kernel
theorem dX1_measures_79 : decode cX1_measures 79 = .ok (.iload 7, 2) := by decide +kernel
theorem dX1_measures_81 : decode cX1_measures 81 = .ok (.if_icmp .ge 37, 3) := by decide +kernel
theorem dX1_measures_84 : decode cX1_measures 84 = .ok (.aload 6, 2) := by decide +kernel
theorem dX1_measures_86 : decode cX1_measures 86 = .ok (.iload 8, 2) := by decide +kernel
theorem dX1_measures_88 : decode cX1_measures 88 = .ok (.aaload, 1) := by decide +kernel
theorem dX1_measures_89 : decode cX1_measures 89 = .ok (.astore 9, 2) := by decide +kernel
theorem dX1_measures_91 : decode cX1_measures 91 = .ok (.aload 4, 2) := by decide +kernel
theorem dX1_measures_93 : decode cX1_measures 93 = .ok (.iload 5, 2) := by decide +kernel
theorem dX1_measures_95 : decode cX1_measures 95 = .ok (.aload 4, 2) := by decide +kernel
theorem dX1_measures_97 : decode cX1_measures 97 = .ok (.iload 5, 2) := by decide +kernel
theorem dX1_measures_99 : decode cX1_measures 99 = .ok (.iaload, 1) := by decide +kernel
theorem dX1_measures_100 : decode cX1_measures 100 = .ok (.aload_n 0, 1) := by decide +kernel
theorem dX1_measures_101 : decode cX1_measures 101 = .ok (.aload 9, 2) := by decide +kernel
theorem dX1_measures_103 : decode cX1_measures 103 = .ok (.aload_n 2, 1) := by decide +kernel
theorem dX1_measures_104 : decode cX1_measures 104 = .ok (.iload_n 1, 1) := by decide +kernel
theorem dX1_measures_105 : decode cX1_measures 105 = .ok (.invokevirtual 40, 3) := by decide +kernel
theorem dX1_measures_108 : decode cX1_measures 108 = .ok (.invokestatic 44, 3) := by decide +kernel
theorem dX1_measures_111 : decode cX1_measures 111 = .ok (.iastore, 1) := by decide +kernel
theorem dX1_measures_112 : decode cX1_measures 112 = .ok (.iinc 8 1, 3) := by decide +kernel
theorem dX1_measures_115 : decode cX1_measures 115 = .ok (.goto (-38), 3) := by decide +kernel
theorem dX1_measures_118 : decode cX1_measures 118 = .ok (.iinc 5 1, 3) := by decide +kernel
theorem dX1_measures_121 : decode cX1_measures 121 = .ok (.goto (-71), 3) := by decide +kernel
theorem dX1_measures_124 : decode cX1_measures 124 = .ok (.aload 4, 2) := by decide +kernel
theorem dX1_measures_126 : decode cX1_measures 126 = .ok (.astore_n 2, 1) := by decide +kernel
theorem dX1_measures_127 : decode cX1_measures 127 = .ok (.iinc 3 1, 3) := by decide +kernel
theorem dX1_measures_130 : decode cX1_measures 130 = .ok (.goto (-101), 3) := by decide +kernel
theorem dX1_measures_133 : decode cX1_measures 133 = .ok (.aload_n 2, 1) := by decide +kernel
theorem dX1_measures_134 : decode cX1_measures 134 = .ok (.areturn, 1) := by decide +kernel
theorem dX1_on_0 : decode cX1_on 0 = .ok (.aload_n 0, 1) := by decide +kernel
theorem dX1_on_1 : decode cX1_on 1 = .ok (.getfield 15, 3) := by decide +kernel
theorem dX1_on_4 : decode cX1_on 4 = .ok (.arraylength, 1) := by decide +kernel
theorem dX1_on_5 : decode cX1_on 5 = .ok (.newarray .boolean, 2) := by decide +kernel
theorem dX1_on_7 : decode cX1_on 7 = .ok (.astore_n 2, 1) := by decide +kernel
theorem dX1_on_8 : decode cX1_on 8 = .ok (.iconst 0, 1) := by decide +kernel
theorem dX1_on_9 : decode cX1_on 9 = .ok (.istore_n 3, 1) := by decide +kernel
theorem dX1_on_10 : decode cX1_on 10 = .ok (.iload_n 3, 1) := by decide +kernel
theorem dX1_on_11 : decode cX1_on 11 = .ok (.aload_n 0, 1) := by decide +kernel
theorem dX1_on_12 : decode cX1_on 12 = .ok (.getfield 15, 3) := by decide +kernel
theorem dX1_on_15 : decode cX1_on 15 = .ok (.arraylength, 1) := by decide +kernel
theorem dX1_on_16 : decode cX1_on 16 = .ok (.if_icmp .ge 101, 3) := by decide +kernel
theorem dX1_on_19 : decode cX1_on 19 = .ok (.aload_n 1, 1) := by decide +kernel
theorem dX1_on_20 : decode cX1_on 20 = .ok (.iload_n 3, 1) := by decide +kernel
theorem dX1_on_21 : decode cX1_on 21 = .ok (.baload, 1) := by decide +kernel
theorem dX1_on_22 : decode cX1_on 22 = .ok (.ifCond .ne 6, 3) := by decide +kernel
theorem dX1_on_25 : decode cX1_on 25 = .ok (.goto 86, 3) := by decide +kernel
theorem dX1_on_28 : decode cX1_on 28 = .ok (.aload_n 0, 1) := by decide +kernel
theorem dX1_on_29 : decode cX1_on 29 = .ok (.getfield 15, 3) := by decide +kernel
theorem dX1_on_32 : decode cX1_on 32 = .ok (.iload_n 3, 1) := by decide +kernel
theorem dX1_on_33 : decode cX1_on 33 = .ok (.aaload, 1) := by decide +kernel
theorem dX1_on_34 : decode cX1_on 34 = .ok (.astore 4, 2) := by decide +kernel
theorem dX1_on_36 : decode cX1_on 36 = .ok (.aload 4, 2) := by decide +kernel
theorem dX1_on_38 : decode cX1_on 38 = .ok (.arraylength, 1) := by decide +kernel
theorem dX1_on_39 : decode cX1_on 39 = .ok (.istore 5, 2) := by decide +kernel
theorem dX1_on_41 : decode cX1_on 41 = .ok (.iconst 0, 1) := by decide +kernel
theorem dX1_on_42 : decode cX1_on 42 = .ok (.istore 6, 2) := by decide +kernel
theorem dX1_on_44 : decode cX1_on 44 = .ok (.iload 6, 2) := by decide +kernel
theorem dX1_on_46 : decode cX1_on 46 = .ok (.iload 5, 2) := by decide +kernel
theorem dX1_on_48 : decode cX1_on 48 = .ok (.if_icmp .ge 63, 3) := by decide +kernel
theorem dX1_on_51 : decode cX1_on 51 = .ok (.aload 4, 2) := by decide +kernel
theorem dX1_on_53 : decode cX1_on 53 = .ok (.iload 6, 2) := by decide +kernel
theorem dX1_on_55 : decode cX1_on 55 = .ok (.aaload, 1) := by decide +kernel
theorem dX1_on_56 : decode cX1_on 56 = .ok (.astore 7, 2) := by decide +kernel
theorem dX1_on_58 : decode cX1_on 58 = .ok (.aload 7, 2) := by decide +kernel
theorem dX1_on_60 : decode cX1_on 60 = .ok (.astore 8, 2) := by decide +kernel
theorem dX1_on_62 : decode cX1_on 62 = .ok (.aload 8, 2) := by decide +kernel
theorem dX1_on_64 : decode cX1_on 64 = .ok (.arraylength, 1) := by decide +kernel
theorem dX1_on_65 : decode cX1_on 65 = .ok (.istore 9, 2) := by decide +kernel
theorem dX1_on_67 : decode cX1_on 67 = .ok (.iconst 0, 1) := by decide +kernel
theorem dX1_on_68 : decode cX1_on 68 = .ok (.istore 10, 2) := by decide +kernel
theorem dX1_on_70 : decode cX1_on 70 = .ok (.iload 10, 2) := by decide +kernel
theorem dX1_on_72 : decode cX1_on 72 = .ok (.iload 9, 2) := by decide +kernel
theorem dX1_on_74 : decode cX1_on 74 = .ok (.if_icmp .ge 31, 3) := by decide +kernel
theorem dX1_on_77 : decode cX1_on 77 = .ok (.aload 8, 2) := by decide +kernel
theorem dX1_on_79 : decode cX1_on 79 = .ok (.iload 10, 2) := by decide +kernel
theorem dX1_on_81 : decode cX1_on 81 = .ok (.aaload, 1) := by decide +kernel
theorem dX1_on_82 : decode cX1_on 82 = .ok (.astore 11, 2) := by decide +kernel
theorem dX1_on_84 : decode cX1_on 84 = .ok (.aload 11, 2) := by decide +kernel
theorem dX1_on_86 : decode cX1_on 86 = .ok (.iconst 0, 1) := by decide +kernel
theorem dX1_on_87 : decode cX1_on 87 = .ok (.iaload, 1) := by decide +kernel
theorem dX1_on_88 : decode cX1_on 88 = .ok (.iconst 1, 1) := by decide +kernel
theorem dX1_on_89 : decode cX1_on 89 = .ok (.if_icmp .ne 10, 3) := by decide +kernel
theorem dX1_on_92 : decode cX1_on 92 = .ok (.aload_n 2, 1) := by decide +kernel
theorem dX1_on_93 : decode cX1_on 93 = .ok (.aload 11, 2) := by decide +kernel
theorem dX1_on_95 : decode cX1_on 95 = .ok (.iconst 1, 1) := by decide +kernel
theorem dX1_on_96 : decode cX1_on 96 = .ok (.iaload, 1) := by decide +kernel
theorem dX1_on_97 : decode cX1_on 97 = .ok (.iconst 1, 1) := by decide +kernel
theorem dX1_on_98 : decode cX1_on 98 = .ok (.bastore, 1) := by decide +kernel
theorem dX1_on_99 : decode cX1_on 99 = .ok (.iinc 10 1, 3) := by decide +kernel
theorem dX1_on_102 : decode cX1_on 102 = .ok (.goto (-32), 3) := by decide +kernel
theorem dX1_on_105 : decode cX1_on 105 = .ok (.iinc 6 1, 3) := by decide +kernel
theorem dX1_on_108 : decode cX1_on 108 = .ok (.goto (-64), 3) := by decide +kernel
theorem dX1_on_111 : decode cX1_on 111 = .ok (.iinc 3 1, 3) := by decide +kernel
theorem dX1_on_114 : decode cX1_on 114 = .ok (.goto (-104), 3) := by decide +kernel
theorem dX1_on_117 : decode cX1_on 117 = .ok (.aload_n 2, 1) := by decide +kernel
theorem dX1_on_118 : decode cX1_on 118 = .ok (.areturn, 1) := by decide +kernel
theorem dX1_circle_0 : decode cX1_circle 0 = .ok (.aload_n 0, 1) := by decide +kernel
theorem dX1_circle_1 : decode cX1_circle 1 = .ok (.getfield 15, 3) := by decide +kernel
theorem dX1_circle_4 : decode cX1_circle 4 = .ok (.arraylength, 1) := by decide +kernel
theorem dX1_circle_5 : decode cX1_circle 5 = .ok (.newarray .boolean, 2) := by decide +kernel
theorem dX1_circle_7 : decode cX1_circle 7 = .ok (.astore_n 2, 1) := by decide +kernel
theorem dX1_circle_8 : decode cX1_circle 8 = .ok (.aload_n 2, 1) := by decide +kernel
theorem dX1_circle_9 : decode cX1_circle 9 = .ok (.iload_n 1, 1) := by decide +kernel
theorem dX1_circle_10 : decode cX1_circle 10 = .ok (.iconst 1, 1) := by decide +kernel
theorem dX1_circle_11 : decode cX1_circle 11 = .ok (.bastore, 1) := by decide +kernel
theorem dX1_circle_12 : decode cX1_circle 12 = .ok (.iconst 1, 1) := by decide +kernel
theorem dX1_circle_13 : decode cX1_circle 13 = .ok (.istore_n 3, 1) := by decide +kernel
theorem dX1_circle_14 : decode cX1_circle 14 = .ok (.iload_n 3, 1) := by decide +kernel
theorem dX1_circle_15 : decode cX1_circle 15 = .ok (.aload_n 0, 1) := by decide +kernel
theorem dX1_circle_16 : decode cX1_circle 16 = .ok (.getfield 15, 3) := by decide +kernel
theorem dX1_circle_19 : decode cX1_circle 19 = .ok (.arraylength, 1) := by decide +kernel
theorem dX1_circle_20 : decode cX1_circle 20 = .ok (.if_icmp .gt 23, 3) := by decide +kernel
theorem dX1_circle_23 : decode cX1_circle 23 = .ok (.aload_n 0, 1) := by decide +kernel
theorem dX1_circle_24 : decode cX1_circle 24 = .ok (.aload_n 2, 1) := by decide +kernel
theorem dX1_circle_25 : decode cX1_circle 25 = .ok (.invokevirtual 50, 3) := by decide +kernel
theorem dX1_circle_28 : decode cX1_circle 28 = .ok (.astore_n 2, 1) := by decide +kernel
theorem dX1_circle_29 : decode cX1_circle 29 = .ok (.aload_n 2, 1) := by decide +kernel
theorem dX1_circle_30 : decode cX1_circle 30 = .ok (.iload_n 1, 1) := by decide +kernel
theorem dX1_circle_31 : decode cX1_circle 31 = .ok (.baload, 1) := by decide +kernel
theorem dX1_circle_32 : decode cX1_circle 32 = .ok (.ifCond .eq 5, 3) := by decide +kernel
theorem dX1_circle_35 : decode cX1_circle 35 = .ok (.iload_n 3, 1) := by decide +kernel
theorem dX1_circle_36 : decode cX1_circle 36 = .ok (.ireturn, 1) := by decide +kernel
theorem dX1_circle_37 : decode cX1_circle 37 = .ok (.iinc 3 1, 3) := by decide +kernel
theorem dX1_circle_40 : decode cX1_circle 40 = .ok (.goto (-26), 3) := by decide +kernel
theorem dX1_circle_43 : decode cX1_circle 43 = .ok (.iconst 0, 1) := by decide +kernel
theorem dX1_circle_44 : decode cX1_circle 44 = .ok (.ireturn, 1) := by decide +kernel
theorem dX1_isSame_0 : decode cX1_isSame 0 = .ok (.aload_n 0, 1) := by decide +kernel
theorem dX1_isSame_1 : decode cX1_isSame 1 = .ok (.iconst (-1), 1) := by decide +kernel
theorem dX1_isSame_2 : decode cX1_isSame 2 = .ok (.invokevirtual 35, 3) := by decide +kernel
theorem dX1_isSame_5 : decode cX1_isSame 5 = .ok (.astore_n 2, 1) := by decide +kernel
theorem dX1_isSame_6 : decode cX1_isSame 6 = .ok (.aload_n 0, 1) := by decide +kernel
theorem dX1_isSame_7 : decode cX1_isSame 7 = .ok (.iconst 0, 1) := by decide +kernel
theorem dX1_isSame_8 : decode cX1_isSame 8 = .ok (.invokevirtual 54, 3) := by decide +kernel
theorem dX1_isSame_11 : decode cX1_isSame 11 = .ok (.astore_n 3, 1) := by decide +kernel
theorem dX1_isSame_12 : decode cX1_isSame 12 = .ok (.aload_n 0, 1) := by decide +kernel
theorem dX1_isSame_13 : decode cX1_isSame 13 = .ok (.iconst 1, 1) := by decide +kernel
theorem dX1_isSame_14 : decode cX1_isSame 14 = .ok (.invokevirtual 54, 3) := by decide +kernel
theorem dX1_isSame_17 : decode cX1_isSame 17 = .ok (.astore 4, 2) := by decide +kernel
theorem dX1_isSame_19 : decode cX1_isSame 19 = .ok (.bipush 7, 2) := by decide +kernel
theorem dX1_isSame_21 : decode cX1_isSame 21 = .ok (.newarray .int, 2) := by decide +kernel
theorem dX1_isSame_23 : decode cX1_isSame 23 = .ok (.dup, 1) := by decide +kernel
theorem dX1_isSame_24 : decode cX1_isSame 24 = .ok (.iconst 0, 1) := by decide +kernel
theorem dX1_isSame_25 : decode cX1_isSame 25 = .ok (.aload_n 0, 1) := by decide +kernel
theorem dX1_isSame_26 : decode cX1_isSame 26 = .ok (.getfield 15, 3) := by decide +kernel
theorem dX1_isSame_29 : decode cX1_isSame 29 = .ok (.arraylength, 1) := by decide +kernel
theorem dX1_isSame_30 : decode cX1_isSame 30 = .ok (.iastore, 1) := by decide +kernel
theorem dX1_isSame_31 : decode cX1_isSame 31 = .ok (.dup, 1) := by decide +kernel
theorem dX1_isSame_32 : decode cX1_isSame 32 = .ok (.iconst 1, 1) := by decide +kernel
theorem dX1_isSame_33 : decode cX1_isSame 33 = .ok (.iconst 0, 1) := by decide +kernel
theorem dX1_isSame_34 : decode cX1_isSame 34 = .ok (.iastore, 1) := by decide +kernel
theorem dX1_isSame_35 : decode cX1_isSame 35 = .ok (.dup, 1) := by decide +kernel
theorem dX1_isSame_36 : decode cX1_isSame 36 = .ok (.iconst 2, 1) := by decide +kernel
theorem dX1_isSame_37 : decode cX1_isSame 37 = .ok (.iconst 0, 1) := by decide +kernel
theorem dX1_isSame_38 : decode cX1_isSame 38 = .ok (.iastore, 1) := by decide +kernel
theorem dX1_isSame_39 : decode cX1_isSame 39 = .ok (.dup, 1) := by decide +kernel
theorem dX1_isSame_40 : decode cX1_isSame 40 = .ok (.iconst 3, 1) := by decide +kernel
theorem dX1_isSame_41 : decode cX1_isSame 41 = .ok (.iconst 0, 1) := by decide +kernel
theorem dX1_isSame_42 : decode cX1_isSame 42 = .ok (.iastore, 1) := by decide +kernel
theorem dX1_isSame_43 : decode cX1_isSame 43 = .ok (.dup, 1) := by decide +kernel
theorem dX1_isSame_44 : decode cX1_isSame 44 = .ok (.iconst 4, 1) := by decide +kernel
theorem dX1_isSame_45 : decode cX1_isSame 45 = .ok (.iconst 0, 1) := by decide +kernel
theorem dX1_isSame_46 : decode cX1_isSame 46 = .ok (.iastore, 1) := by decide +kernel
theorem dX1_isSame_47 : decode cX1_isSame 47 = .ok (.dup, 1) := by decide +kernel
theorem dX1_isSame_48 : decode cX1_isSame 48 = .ok (.iconst 5, 1) := by decide +kernel
theorem dX1_isSame_49 : decode cX1_isSame 49 = .ok (.iconst 0, 1) := by decide +kernel
theorem dX1_isSame_50 : decode cX1_isSame 50 = .ok (.iastore, 1) := by decide +kernel
theorem dX1_isSame_51 : decode cX1_isSame 51 = .ok (.dup, 1) := by decide +kernel
theorem dX1_isSame_52 : decode cX1_isSame 52 = .ok (.bipush 6, 2) := by decide +kernel
theorem dX1_isSame_54 : decode cX1_isSame 54 = .ok (.iconst 0, 1) := by decide +kernel
theorem dX1_isSame_55 : decode cX1_isSame 55 = .ok (.iastore, 1) := by decide +kernel
theorem dX1_isSame_56 : decode cX1_isSame 56 = .ok (.astore 5, 2) := by decide +kernel
theorem dX1_isSame_58 : decode cX1_isSame 58 = .ok (.aload_n 0, 1) := by decide +kernel
theorem dX1_isSame_59 : decode cX1_isSame 59 = .ok (.getfield 7, 3) := by decide +kernel
theorem dX1_isSame_62 : decode cX1_isSame 62 = .ok (.astore 6, 2) := by decide +kernel
theorem dX1_isSame_64 : decode cX1_isSame 64 = .ok (.aload 6, 2) := by decide +kernel
theorem dX1_isSame_66 : decode cX1_isSame 66 = .ok (.arraylength, 1) := by decide +kernel
theorem dX1_isSame_67 : decode cX1_isSame 67 = .ok (.istore 7, 2) := by decide +kernel
theorem dX1_isSame_69 : decode cX1_isSame 69 = .ok (.iconst 0, 1) := by decide +kernel
theorem dX1_isSame_70 : decode cX1_isSame 70 = .ok (.istore 8, 2) := by decide +kernel
theorem dX1_isSame_72 : decode cX1_isSame 72 = .ok (.iload 8, 2) := by decide +kernel
theorem dX1_isSame_74 : decode cX1_isSame 74 = .ok (.iload 7, 2) := by decide +kernel
theorem dX1_isSame_76 : decode cX1_isSame 76 = .ok (.if_icmp .ge 33, 3) := by decide +kernel
theorem dX1_isSame_79 : decode cX1_isSame 79 = .ok (.aload 6, 2) := by decide +kernel
theorem dX1_isSame_81 : decode cX1_isSame 81 = .ok (.iload 8, 2) := by decide +kernel
theorem dX1_isSame_83 : decode cX1_isSame 83 = .ok (.baload, 1) := by decide +kernel
theorem dX1_isSame_84 : decode cX1_isSame 84 = .ok (.istore 9, 2) := by decide +kernel
theorem dX1_isSame_86 : decode cX1_isSame 86 = .ok (.aload 5, 2) := by decide +kernel
theorem dX1_isSame_88 : decode cX1_isSame 88 = .ok (.iconst 2, 1) := by decide +kernel
theorem dX1_isSame_89 : decode cX1_isSame 89 = .ok (.dup2, 1) := by decide +kernel
theorem dX1_isSame_90 : decode cX1_isSame 90 = .ok (.iaload, 1) := by decide +kernel
theorem dX1_isSame_91 : decode cX1_isSame 91 = .ok (.iload 9, 2) := by decide +kernel
theorem dX1_isSame_93 : decode cX1_isSame 93 = .ok (.ifCond .eq 7, 3) := by decide +kernel
theorem dX1_isSame_96 : decode cX1_isSame 96 = .ok (.iconst 1, 1) := by decide +kernel
theorem dX1_isSame_97 : decode cX1_isSame 97 = .ok (.goto 4, 3) := by decide +kernel
theorem dX1_isSame_100 : decode cX1_isSame 100 = .ok (.iconst 0, 1) := by decide +kernel
theorem dX1_isSame_101 : decode cX1_isSame 101 = .ok (.iadd, 1) := by decide +kernel
theorem dX1_isSame_102 : decode cX1_isSame 102 = .ok (.iastore, 1) := by decide +kernel
theorem dX1_isSame_103 : decode cX1_isSame 103 = .ok (.iinc 8 1, 3) := by decide +kernel
theorem dX1_isSame_106 : decode cX1_isSame 106 = .ok (.goto (-34), 3) := by decide +kernel
theorem dX1_isSame_109 : decode cX1_isSame 109 = .ok (.iconst 0, 1) := by decide +kernel
theorem dX1_isSame_110 : decode cX1_isSame 110 = .ok (.istore 6, 2) := by decide +kernel
theorem dX1_isSame_112 : decode cX1_isSame 112 = .ok (.iload 6, 2) := by decide +kernel
theorem dX1_isSame_114 : decode cX1_isSame 114 = .ok (.aload_n 0, 1) := by decide +kernel
theorem dX1_isSame_115 : decode cX1_isSame 115 = .ok (.getfield 15, 3) := by decide +kernel
theorem dX1_isSame_118 : decode cX1_isSame 118 = .ok (.arraylength, 1) := by decide +kernel
theorem dX1_isSame_119 : decode cX1_isSame 119 = .ok (.if_icmp .ge 477, 3) := by decide +kernel
theorem dX1_isSame_122 : decode cX1_isSame 122 = .ok (.bipush 7, 2) := by decide +kernel
theorem dX1_isSame_124 : decode cX1_isSame 124 = .ok (.newarray .int, 2) := by decide +kernel
theorem dX1_isSame_126 : decode cX1_isSame 126 = .ok (.dup, 1) := by decide +kernel
theorem dX1_isSame_127 : decode cX1_isSame 127 = .ok (.iconst 0, 1) := by decide +kernel
theorem dX1_isSame_128 : decode cX1_isSame 128 = .ok (.aload_n 0, 1) := by decide +kernel
theorem dX1_isSame_129 : decode cX1_isSame 129 = .ok (.getfield 15, 3) := by decide +kernel
theorem dX1_isSame_132 : decode cX1_isSame 132 = .ok (.iload 6, 2) := by decide +kernel
theorem dX1_isSame_134 : decode cX1_isSame 134 = .ok (.aaload, 1) := by decide +kernel
theorem dX1_isSame_135 : decode cX1_isSame 135 = .ok (.arraylength, 1) := by decide +kernel
theorem dX1_isSame_136 : decode cX1_isSame 136 = .ok (.iastore, 1) := by decide +kernel
theorem dX1_isSame_137 : decode cX1_isSame 137 = .ok (.dup, 1) := by decide +kernel
theorem dX1_isSame_138 : decode cX1_isSame 138 = .ok (.iconst 1, 1) := by decide +kernel
theorem dX1_isSame_139 : decode cX1_isSame 139 = .ok (.iconst 0, 1) := by decide +kernel
theorem dX1_isSame_140 : decode cX1_isSame 140 = .ok (.iastore, 1) := by decide +kernel
theorem dX1_isSame_141 : decode cX1_isSame 141 = .ok (.dup, 1) := by decide +kernel
theorem dX1_isSame_142 : decode cX1_isSame 142 = .ok (.iconst 2, 1) := by decide +kernel
theorem dX1_isSame_143 : decode cX1_isSame 143 = .ok (.aload_n 2, 1) := by decide +kernel
theorem dX1_isSame_144 : decode cX1_isSame 144 = .ok (.iload 6, 2) := by decide +kernel
theorem dX1_isSame_146 : decode cX1_isSame 146 = .ok (.iaload, 1) := by decide +kernel
theorem dX1_isSame_147 : decode cX1_isSame 147 = .ok (.iastore, 1) := by decide +kernel
theorem dX1_isSame_148 : decode cX1_isSame 148 = .ok (.dup, 1) := by decide +kernel
theorem dX1_isSame_149 : decode cX1_isSame 149 = .ok (.iconst 3, 1) := by decide +kernel
theorem dX1_isSame_150 : decode cX1_isSame 150 = .ok (.aload_n 3, 1) := by decide +kernel
theorem dX1_isSame_151 : decode cX1_isSame 151 = .ok (.iload 6, 2) := by decide +kernel
theorem dX1_isSame_153 : decode cX1_isSame 153 = .ok (.iaload, 1) := by decide +kernel
theorem dX1_isSame_154 : decode cX1_isSame 154 = .ok (.sipush 9998, 3) := by decide +kernel
theorem dX1_isSame_157 : decode cX1_isSame 157 = .ok (.if_icmp .le 7, 3) := by decide +kernel
theorem dX1_isSame_160 : decode cX1_isSame 160 = .ok (.iconst (-1), 1) := by decide +kernel
theorem dX1_isSame_161 : decode cX1_isSame 161 = .ok (.goto 7, 3) := by decide +kernel
theorem dX1_isSame_164 : decode cX1_isSame 164 = .ok (.aload_n 3, 1) := by decide +kernel
theorem dX1_isSame_165 : decode cX1_isSame 165 = .ok (.iload 6, 2) := by decide +kernel
theorem dX1_isSame_167 : decode cX1_isSame 167 = .ok (.iaload, 1) := by decide +kernel
theorem dX1_isSame_168 : decode cX1_isSame 168 = .ok (.iastore, 1) := by decide +kernel
theorem dX1_isSame_169 : decode cX1_isSame 169 = .ok (.dup, 1) := by decide +kernel
theorem dX1_isSame_170 : decode cX1_isSame 170 = .ok (.iconst 4, 1) := by decide +kernel
theorem dX1_isSame_171 : decode cX1_isSame 171 = .ok (.aload 4, 2) := by decide +kernel
theorem dX1_isSame_173 : decode cX1_isSame 173 = .ok (.iload 6, 2) := by decide +kernel
theorem dX1_isSame_175 : decode cX1_isSame 175 = .ok (.iaload, 1) := by decide +kernel
theorem dX1_isSame_176 : decode cX1_isSame 176 = .ok (.sipush 9998, 3) := by decide +kernel
theorem dX1_isSame_179 : decode cX1_isSame 179 = .ok (.if_icmp .le 7, 3) := by decide +kernel
theorem dX1_isSame_182 : decode cX1_isSame 182 = .ok (.iconst (-1), 1) := by decide +kernel
theorem dX1_isSame_183 : decode cX1_isSame 183 = .ok (.goto 8, 3) := by decide +kernel
theorem dX1_isSame_186 : decode cX1_isSame 186 = .ok (.aload 4, 2) := by decide +kernel
theorem dX1_isSame_188 : decode cX1_isSame 188 = .ok (.iload 6, 2) := by decide +kernel
theorem dX1_isSame_190 : decode cX1_isSame 190 = .ok (.iaload, 1) := by decide +kernel
theorem dX1_isSame_191 : decode cX1_isSame 191 = .ok (.iastore, 1) := by decide +kernel
theorem dX1_isSame_192 : decode cX1_isSame 192 = .ok (.dup, 1) := by decide +kernel
theorem dX1_isSame_193 : decode cX1_isSame 193 = .ok (.iconst 5, 1) := by decide +kernel
theorem dX1_isSame_194 : decode cX1_isSame 194 = .ok (.iconst 0, 1) := by decide +kernel
theorem dX1_isSame_195 : decode cX1_isSame 195 = .ok (.iastore, 1) := by decide +kernel
theorem dX1_isSame_196 : decode cX1_isSame 196 = .ok (.dup, 1) := by decide +kernel
theorem dX1_isSame_197 : decode cX1_isSame 197 = .ok (.bipush 6, 2) := by decide +kernel
theorem dX1_isSame_199 : decode cX1_isSame 199 = .ok (.aload_n 0, 1) := by decide +kernel
theorem dX1_isSame_200 : decode cX1_isSame 200 = .ok (.iload 6, 2) := by decide +kernel
theorem dX1_isSame_202 : decode cX1_isSame 202 = .ok (.invokevirtual 57, 3) := by decide +kernel
theorem dX1_isSame_205 : decode cX1_isSame 205 = .ok (.iastore, 1) := by decide +kernel
theorem dX1_isSame_206 : decode cX1_isSame 206 = .ok (.astore 7, 2) := by decide +kernel
theorem dX1_isSame_208 : decode cX1_isSame 208 = .ok (.iconst (-1), 1) := by decide +kernel
theorem dX1_isSame_209 : decode cX1_isSame 209 = .ok (.istore 8, 2) := by decide +kernel
theorem dX1_isSame_211 : decode cX1_isSame 211 = .ok (.iconst 0, 1) := by decide +kernel
theorem dX1_isSame_212 : decode cX1_isSame 212 = .ok (.istore 9, 2) := by decide +kernel
theorem dX1_isSame_214 : decode cX1_isSame 214 = .ok (.iload 9, 2) := by decide +kernel
theorem dX1_isSame_216 : decode cX1_isSame 216 = .ok (.aload_n 0, 1) := by decide +kernel
theorem dX1_isSame_217 : decode cX1_isSame 217 = .ok (.getfield 15, 3) := by decide +kernel
theorem dX1_isSame_220 : decode cX1_isSame 220 = .ok (.iload 6, 2) := by decide +kernel
theorem dX1_isSame_222 : decode cX1_isSame 222 = .ok (.aaload, 1) := by decide +kernel
theorem dX1_isSame_223 : decode cX1_isSame 223 = .ok (.arraylength, 1) := by decide +kernel
theorem dX1_isSame_224 : decode cX1_isSame 224 = .ok (.if_icmp .ge 246, 3) := by decide +kernel
theorem dX1_isSame_227 : decode cX1_isSame 227 = .ok (.aload_n 0, 1) := by decide +kernel
theorem dX1_isSame_228 : decode cX1_isSame 228 = .ok (.getfield 15, 3) := by decide +kernel
theorem dX1_isSame_231 : decode cX1_isSame 231 = .ok (.iload 6, 2) := by decide +kernel
theorem dX1_isSame_233 : decode cX1_isSame 233 = .ok (.aaload, 1) := by decide +kernel
theorem dX1_isSame_234 : decode cX1_isSame 234 = .ok (.iload 9, 2) := by decide +kernel
theorem dX1_isSame_236 : decode cX1_isSame 236 = .ok (.aaload, 1) := by decide +kernel
theorem dX1_isSame_237 : decode cX1_isSame 237 = .ok (.astore 10, 2) := by decide +kernel
theorem dX1_isSame_239 : decode cX1_isSame 239 = .ok (.aload_n 0, 1) := by decide +kernel
theorem dX1_isSame_240 : decode cX1_isSame 240 = .ok (.aload 10, 2) := by decide +kernel
theorem dX1_isSame_242 : decode cX1_isSame 242 = .ok (.aload_n 3, 1) := by decide +kernel
theorem dX1_isSame_243 : decode cX1_isSame 243 = .ok (.iconst 0, 1) := by decide +kernel
theorem dX1_isSame_244 : decode cX1_isSame 244 = .ok (.invokevirtual 40, 3) := by decide +kernel
theorem dX1_isSame_247 : decode cX1_isSame 247 = .ok (.istore 11, 2) := by decide +kernel
theorem dX1_isSame_249 : decode cX1_isSame 249 = .ok (.aload_n 0, 1) := by decide +kernel
theorem dX1_isSame_250 : decode cX1_isSame 250 = .ok (.aload 10, 2) := by decide +kernel
theorem dX1_isSame_252 : decode cX1_isSame 252 = .ok (.aload 4, 2) := by decide +kernel
theorem dX1_isSame_254 : decode cX1_isSame 254 = .ok (.iconst 1, 1) := by decide +kernel
theorem dX1_isSame_255 : decode cX1_isSame 255 = .ok (.invokevirtual 40, 3) := by decide +kernel
theorem dX1_isSame_258 : decode cX1_isSame 258 = .ok (.istore 12, 2) := by decide +kernel
theorem dX1_isSame_260 : decode cX1_isSame 260 = .ok (.iconst 4, 1) := by decide +kernel
theorem dX1_isSame_261 : decode cX1_isSame 261 = .ok (.newarray .int, 2) := by decide +kernel
theorem dX1_isSame_263 : decode cX1_isSame 263 = .ok (.dup, 1) := by decide +kernel
theorem dX1_isSame_264 : decode cX1_isSame 264 = .ok (.iconst 0, 1) := by decide +kernel
theorem dX1_isSame_265 : decode cX1_isSame 265 = .ok (.aload 10, 2) := by decide +kernel
theorem dX1_isSame_267 : decode cX1_isSame 267 = .ok (.arraylength, 1) := by decide +kernel
theorem dX1_isSame_268 : decode cX1_isSame 268 = .ok (.iastore, 1) := by decide +kernel
theorem dX1_isSame_269 : decode cX1_isSame 269 = .ok (.dup, 1) := by decide +kernel
theorem dX1_isSame_270 : decode cX1_isSame 270 = .ok (.iconst 1, 1) := by decide +kernel
theorem dX1_isSame_271 : decode cX1_isSame 271 = .ok (.aload_n 0, 1) := by decide +kernel
theorem dX1_isSame_272 : decode cX1_isSame 272 = .ok (.aload 10, 2) := by decide +kernel
theorem dX1_isSame_274 : decode cX1_isSame 274 = .ok (.aload_n 2, 1) := by decide +kernel
theorem dX1_isSame_275 : decode cX1_isSame 275 = .ok (.invokevirtual 31, 3) := by decide +kernel
theorem dX1_isSame_278 : decode cX1_isSame 278 = .ok (.ifCond .eq 7, 3) := by decide +kernel
theorem dX1_isSame_281 : decode cX1_isSame 281 = .ok (.iconst 1, 1) := by decide +kernel
theorem dX1_isSame_282 : decode cX1_isSame 282 = .ok (.goto 4, 3) := by decide +kernel
theorem dX1_isSame_285 : decode cX1_isSame 285 = .ok (.iconst 0, 1) := by decide +kernel
theorem dX1_isSame_286 : decode cX1_isSame 286 = .ok (.iastore, 1) := by decide +kernel
theorem dX1_isSame_287 : decode cX1_isSame 287 = .ok (.dup, 1) := by decide +kernel
theorem dX1_isSame_288 : decode cX1_isSame 288 = .ok (.iconst 2, 1) := by decide +kernel
theorem dX1_isSame_289 : decode cX1_isSame 289 = .ok (.iload 11, 2) := by decide +kernel
theorem dX1_isSame_291 : decode cX1_isSame 291 = .ok (.sipush 9998, 3) := by decide +kernel
theorem dX1_isSame_294 : decode cX1_isSame 294 = .ok (.if_icmp .le 7, 3) := by decide +kernel
theorem dX1_isSame_297 : decode cX1_isSame 297 = .ok (.iconst (-1), 1) := by decide +kernel
theorem dX1_isSame_298 : decode cX1_isSame 298 = .ok (.goto 5, 3) := by decide +kernel
theorem dX1_isSame_301 : decode cX1_isSame 301 = .ok (.iload 11, 2) := by decide +kernel
theorem dX1_isSame_303 : decode cX1_isSame 303 = .ok (.iastore, 1) := by decide +kernel
theorem dX1_isSame_304 : decode cX1_isSame 304 = .ok (.dup, 1) := by decide +kernel
theorem dX1_isSame_305 : decode cX1_isSame 305 = .ok (.iconst 3, 1) := by decide +kernel
theorem dX1_isSame_306 : decode cX1_isSame 306 = .ok (.iload 12, 2) := by decide +kernel
theorem dX1_isSame_308 : decode cX1_isSame 308 = .ok (.ldc 39, 2) := by decide +kernel
theorem dX1_isSame_310 : decode cX1_isSame 310 = .ok (.if_icmp .ne 7, 3) := by decide +kernel
theorem dX1_isSame_313 : decode cX1_isSame 313 = .ok (.iconst (-1), 1) := by decide +kernel
theorem dX1_isSame_314 : decode cX1_isSame 314 = .ok (.goto 5, 3) := by decide +kernel
theorem dX1_isSame_317 : decode cX1_isSame 317 = .ok (.iload 12, 2) := by decide +kernel
theorem dX1_isSame_319 : decode cX1_isSame 319 = .ok (.iastore, 1) := by decide +kernel
theorem dX1_isSame_320 : decode cX1_isSame 320 = .ok (.astore 13, 2) := by decide +kernel
theorem dX1_isSame_322 : decode cX1_isSame 322 = .ok (.iconst 0, 1) := by decide +kernel
theorem dX1_isSame_323 : decode cX1_isSame 323 = .ok (.istore 14, 2) := by decide +kernel
theorem dX1_isSame_325 : decode cX1_isSame 325 = .ok (.iload 14, 2) := by decide +kernel
theorem dX1_isSame_327 : decode cX1_isSame 327 = .ok (.iconst 4, 1) := by decide +kernel
theorem dX1_isSame_328 : decode cX1_isSame 328 = .ok (.if_icmp .ge 29, 3) := by decide +kernel
theorem dX1_isSame_331 : decode cX1_isSame 331 = .ok (.aload_n 1, 1) := by decide +kernel
theorem dX1_isSame_332 : decode cX1_isSame 332 = .ok (.iload 6, 2) := by decide +kernel
theorem dX1_isSame_334 : decode cX1_isSame 334 = .ok (.iload 9, 2) := by decide +kernel
theorem dX1_isSame_336 : decode cX1_isSame 336 = .ok (.iload 14, 2) := by decide +kernel
theorem dX1_isSame_338 : decode cX1_isSame 338 = .ok (.invokevirtual 61, 3) := by decide +kernel
theorem dX1_isSame_341 : decode cX1_isSame 341 = .ok (.aload 13, 2) := by decide +kernel
theorem dX1_isSame_343 : decode cX1_isSame 343 = .ok (.iload 14, 2) := by decide +kernel
theorem dX1_isSame_345 : decode cX1_isSame 345 = .ok (.iaload, 1) := by decide +kernel
theorem dX1_isSame_346 : decode cX1_isSame 346 = .ok (.if_icmp .eq 5, 3) := by decide +kernel
theorem dX1_isSame_349 : decode cX1_isSame 349 = .ok (.iconst 0, 1) := by decide +kernel
theorem dX1_isSame_350 : decode cX1_isSame 350 = .ok (.ireturn, 1) := by decide +kernel
theorem dX1_isSame_351 : decode cX1_isSame 351 = .ok (.iinc 14 1, 3) := by decide +kernel
theorem dX1_isSame_354 : decode cX1_isSame 354 = .ok (.goto (-29), 3) := by decide +kernel
theorem dX1_isSame_357 : decode cX1_isSame 357 = .ok (.iload 11, 2) := by decide +kernel
theorem dX1_isSame_359 : decode cX1_isSame 359 = .ok (.sipush 9999, 3) := by decide +kernel
theorem dX1_isSame_362 : decode cX1_isSame 362 = .ok (.if_icmp .ge 21, 3) := by decide +kernel
theorem dX1_isSame_365 : decode cX1_isSame 365 = .ok (.iload 8, 2) := by decide +kernel
theorem dX1_isSame_367 : decode cX1_isSame 367 = .ok (.ifCond .ge 16, 3) := by decide +kernel
theorem dX1_isSame_370 : decode cX1_isSame 370 = .ok (.iload 11, 2) := by decide +kernel
theorem dX1_isSame_372 : decode cX1_isSame 372 = .ok (.aload_n 3, 1) := by decide +kernel
theorem dX1_isSame_373 : decode cX1_isSame 373 = .ok (.iload 6, 2) := by decide +kernel
theorem dX1_isSame_375 : decode cX1_isSame 375 = .ok (.iaload, 1) := by decide +kernel
theorem dX1_isSame_376 : decode cX1_isSame 376 = .ok (.if_icmp .ne 7, 3) := by decide +kernel
theorem dX1_isSame_379 : decode cX1_isSame 379 = .ok (.iload 9, 2) := by decide +kernel
theorem dX1_isSame_381 : decode cX1_isSame 381 = .ok (.istore 8, 2) := by decide +kernel
theorem dX1_isSame_383 : decode cX1_isSame 383 = .ok (.aload 7, 2) := by decide +kernel
theorem dX1_isSame_385 : decode cX1_isSame 385 = .ok (.iconst 1, 1) := by decide +kernel
theorem dX1_isSame_386 : decode cX1_isSame 386 = .ok (.dup2, 1) := by decide +kernel
theorem dX1_isSame_387 : decode cX1_isSame 387 = .ok (.iaload, 1) := by decide +kernel
theorem dX1_isSame_388 : decode cX1_isSame 388 = .ok (.aload 10, 2) := by decide +kernel
theorem dX1_isSame_390 : decode cX1_isSame 390 = .ok (.arraylength, 1) := by decide +kernel
theorem dX1_isSame_391 : decode cX1_isSame 391 = .ok (.iadd, 1) := by decide +kernel
theorem dX1_isSame_392 : decode cX1_isSame 392 = .ok (.iastore, 1) := by decide +kernel
theorem dX1_isSame_393 : decode cX1_isSame 393 = .ok (.iconst 0, 1) := by decide +kernel
theorem dX1_isSame_394 : decode cX1_isSame 394 = .ok (.istore 14, 2) := by decide +kernel
theorem dX1_isSame_396 : decode cX1_isSame 396 = .ok (.iload 14, 2) := by decide +kernel
theorem dX1_isSame_398 : decode cX1_isSame 398 = .ok (.aload 10, 2) := by decide +kernel
theorem dX1_isSame_400 : decode cX1_isSame 400 = .ok (.arraylength, 1) := by decide +kernel
theorem dX1_isSame_401 : decode cX1_isSame 401 = .ok (.if_icmp .ge 63, 3) := by decide +kernel
theorem dX1_isSame_404 : decode cX1_isSame 404 = .ok (.iconst 0, 1) := by decide +kernel
theorem dX1_isSame_405 : decode cX1_isSame 405 = .ok (.istore 15, 2) := by decide +kernel
theorem dX1_isSame_407 : decode cX1_isSame 407 = .ok (.iload 15, 2) := by decide +kernel
theorem dX1_isSame_409 : decode cX1_isSame 409 = .ok (.iconst 4, 1) := by decide +kernel
theorem dX1_isSame_410 : decode cX1_isSame 410 = .ok (.if_icmp .ge 34, 3) := by decide +kernel
theorem dX1_isSame_413 : decode cX1_isSame 413 = .ok (.aload_n 1, 1) := by decide +kernel
theorem dX1_isSame_414 : decode cX1_isSame 414 = .ok (.iload 6, 2) := by decide +kernel
theorem dX1_isSame_416 : decode cX1_isSame 416 = .ok (.iload 9, 2) := by decide +kernel
theorem dX1_isSame_418 : decode cX1_isSame 418 = .ok (.iload 14, 2) := by decide +kernel
theorem dX1_isSame_420 : decode cX1_isSame 420 = .ok (.iload 15, 2) := by decide +kernel
theorem dX1_isSame_422 : decode cX1_isSame 422 = .ok (.invokevirtual 67, 3) := by decide +kernel
theorem dX1_isSame_425 : decode cX1_isSame 425 = .ok (.aload 10, 2) := by decide +kernel
theorem dX1_isSame_427 : decode cX1_isSame 427 = .ok (.iload 14, 2) := by decide +kernel
theorem dX1_isSame_429 : decode cX1_isSame 429 = .ok (.aaload, 1) := by decide +kernel
theorem dX1_isSame_430 : decode cX1_isSame 430 = .ok (.iload 15, 2) := by decide +kernel
theorem dX1_isSame_432 : decode cX1_isSame 432 = .ok (.iaload, 1) := by decide +kernel
theorem dX1_isSame_433 : decode cX1_isSame 433 = .ok (.if_icmp .eq 5, 3) := by decide +kernel
theorem dX1_isSame_436 : decode cX1_isSame 436 = .ok (.iconst 0, 1) := by decide +kernel
theorem dX1_isSame_437 : decode cX1_isSame 437 = .ok (.ireturn, 1) := by decide +kernel
theorem dX1_isSame_438 : decode cX1_isSame 438 = .ok (.iinc 15 1, 3) := by decide +kernel
theorem dX1_isSame_441 : decode cX1_isSame 441 = .ok (.goto (-34), 3) := by decide +kernel
theorem dX1_isSame_444 : decode cX1_isSame 444 = .ok (.aload 7, 2) := by decide +kernel
theorem dX1_isSame_446 : decode cX1_isSame 446 = .ok (.iconst 5, 1) := by decide +kernel
theorem dX1_isSame_447 : decode cX1_isSame 447 = .ok (.dup2, 1) := by decide +kernel
theorem dX1_isSame_448 : decode cX1_isSame 448 = .ok (.iaload, 1) := by decide +kernel
theorem dX1_isSame_449 : decode cX1_isSame 449 = .ok (.aload 10, 2) := by decide +kernel
theorem dX1_isSame_451 : decode cX1_isSame 451 = .ok (.iload 14, 2) := by decide +kernel
theorem dX1_isSame_453 : decode cX1_isSame 453 = .ok (.aaload, 1) := by decide +kernel
theorem dX1_isSame_454 : decode cX1_isSame 454 = .ok (.iconst 2, 1) := by decide +kernel
theorem dX1_isSame_455 : decode cX1_isSame 455 = .ok (.iaload, 1) := by decide +kernel
theorem dX1_isSame_456 : decode cX1_isSame 456 = .ok (.iadd, 1) := by decide +kernel
theorem dX1_isSame_457 : decode cX1_isSame 457 = .ok (.iastore, 1) := by decide +kernel
theorem dX1_isSame_458 : decode cX1_isSame 458 = .ok (.iinc 14 1, 3) := by decide +kernel
theorem dX1_isSame_461 : decode cX1_isSame 461 = .ok (.goto (-65), 3) := by decide +kernel
theorem dX1_isSame_464 : decode cX1_isSame 464 = .ok (.iinc 9 1, 3) := by decide +kernel
theorem dX1_isSame_467 : decode cX1_isSame 467 = .ok (.goto (-253), 3) := by decide +kernel
theorem dX1_isSame_470 : decode cX1_isSame 470 = .ok (.iconst 0, 1) := by decide +kernel
theorem dX1_isSame_471 : decode cX1_isSame 471 = .ok (.istore 9, 2) := by decide +kernel
theorem dX1_isSame_473 : decode cX1_isSame 473 = .ok (.iload 9, 2) := by decide +kernel
theorem dX1_isSame_475 : decode cX1_isSame 475 = .ok (.bipush 7, 2) := by decide +kernel
theorem dX1_isSame_477 : decode cX1_isSame 477 = .ok (.if_icmp .ge 27, 3) := by decide +kernel
theorem dX1_isSame_480 : decode cX1_isSame 480 = .ok (.aload_n 1, 1) := by decide +kernel
theorem dX1_isSame_481 : decode cX1_isSame 481 = .ok (.iload 6, 2) := by decide +kernel
theorem dX1_isSame_483 : decode cX1_isSame 483 = .ok (.iload 9, 2) := by decide +kernel
theorem dX1_isSame_485 : decode cX1_isSame 485 = .ok (.invokevirtual 71, 3) := by decide +kernel
theorem dX1_isSame_488 : decode cX1_isSame 488 = .ok (.aload 7, 2) := by decide +kernel
theorem dX1_isSame_490 : decode cX1_isSame 490 = .ok (.iload 9, 2) := by decide +kernel
theorem dX1_isSame_492 : decode cX1_isSame 492 = .ok (.iaload, 1) := by decide +kernel
theorem dX1_isSame_493 : decode cX1_isSame 493 = .ok (.if_icmp .eq 5, 3) := by decide +kernel
theorem dX1_isSame_496 : decode cX1_isSame 496 = .ok (.iconst 0, 1) := by decide +kernel
theorem dX1_isSame_497 : decode cX1_isSame 497 = .ok (.ireturn, 1) := by decide +kernel
theorem dX1_isSame_498 : decode cX1_isSame 498 = .ok (.iinc 9 1, 3) := by decide +kernel
theorem dX1_isSame_501 : decode cX1_isSame 501 = .ok (.goto (-28), 3) := by decide +kernel
theorem dX1_isSame_504 : decode cX1_isSame 504 = .ok (.aload_n 1, 1) := by decide +kernel
theorem dX1_isSame_505 : decode cX1_isSame 505 = .ok (.iload 6, 2) := by decide +kernel
theorem dX1_isSame_507 : decode cX1_isSame 507 = .ok (.invokevirtual 74, 3) := by decide +kernel
theorem dX1_isSame_510 : decode cX1_isSame 510 = .ok (.iload 8, 2) := by decide +kernel
theorem dX1_isSame_512 : decode cX1_isSame 512 = .ok (.if_icmp .eq 5, 3) := by decide +kernel
theorem dX1_isSame_515 : decode cX1_isSame 515 = .ok (.iconst 0, 1) := by decide +kernel
theorem dX1_isSame_516 : decode cX1_isSame 516 = .ok (.ireturn, 1) := by decide +kernel
theorem dX1_isSame_517 : decode cX1_isSame 517 = .ok (.aload 5, 2) := by decide +kernel
theorem dX1_isSame_519 : decode cX1_isSame 519 = .ok (.iconst 1, 1) := by decide +kernel
theorem dX1_isSame_520 : decode cX1_isSame 520 = .ok (.dup2, 1) := by decide +kernel
theorem dX1_isSame_521 : decode cX1_isSame 521 = .ok (.iaload, 1) := by decide +kernel
theorem dX1_isSame_522 : decode cX1_isSame 522 = .ok (.aload_n 2, 1) := by decide +kernel
theorem dX1_isSame_523 : decode cX1_isSame 523 = .ok (.iload 6, 2) := by decide +kernel
theorem dX1_isSame_525 : decode cX1_isSame 525 = .ok (.iaload, 1) := by decide +kernel
theorem dX1_isSame_526 : decode cX1_isSame 526 = .ok (.ifCond .le 7, 3) := by decide +kernel
theorem dX1_isSame_529 : decode cX1_isSame 529 = .ok (.iconst 1, 1) := by decide +kernel
theorem dX1_isSame_530 : decode cX1_isSame 530 = .ok (.goto 4, 3) := by decide +kernel
theorem dX1_isSame_533 : decode cX1_isSame 533 = .ok (.iconst 0, 1) := by decide +kernel
theorem dX1_isSame_534 : decode cX1_isSame 534 = .ok (.iadd, 1) := by decide +kernel
theorem dX1_isSame_535 : decode cX1_isSame 535 = .ok (.iastore, 1) := by decide +kernel
theorem dX1_isSame_536 : decode cX1_isSame 536 = .ok (.aload 5, 2) := by decide +kernel
theorem dX1_isSame_538 : decode cX1_isSame 538 = .ok (.iconst 3, 1) := by decide +kernel
theorem dX1_isSame_539 : decode cX1_isSame 539 = .ok (.dup2, 1) := by decide +kernel
theorem dX1_isSame_540 : decode cX1_isSame 540 = .ok (.iaload, 1) := by decide +kernel
theorem dX1_isSame_541 : decode cX1_isSame 541 = .ok (.aload 7, 2) := by decide +kernel
theorem dX1_isSame_543 : decode cX1_isSame 543 = .ok (.iconst 0, 1) := by decide +kernel
theorem dX1_isSame_544 : decode cX1_isSame 544 = .ok (.iaload, 1) := by decide +kernel
theorem dX1_isSame_545 : decode cX1_isSame 545 = .ok (.iadd, 1) := by decide +kernel
theorem dX1_isSame_546 : decode cX1_isSame 546 = .ok (.iastore, 1) := by decide +kernel
theorem dX1_isSame_547 : decode cX1_isSame 547 = .ok (.aload 5, 2) := by decide +kernel
theorem dX1_isSame_549 : decode cX1_isSame 549 = .ok (.iconst 4, 1) := by decide +kernel
theorem dX1_isSame_550 : decode cX1_isSame 550 = .ok (.dup2, 1) := by decide +kernel
theorem dX1_isSame_551 : decode cX1_isSame 551 = .ok (.iaload, 1) := by decide +kernel
theorem dX1_isSame_552 : decode cX1_isSame 552 = .ok (.aload 7, 2) := by decide +kernel
theorem dX1_isSame_554 : decode cX1_isSame 554 = .ok (.iconst 1, 1) := by decide +kernel
theorem dX1_isSame_555 : decode cX1_isSame 555 = .ok (.iaload, 1) := by decide +kernel
theorem dX1_isSame_556 : decode cX1_isSame 556 = .ok (.iadd, 1) := by decide +kernel
theorem dX1_isSame_557 : decode cX1_isSame 557 = .ok (.iastore, 1) := by decide +kernel
theorem dX1_isSame_558 : decode cX1_isSame 558 = .ok (.aload 5, 2) := by decide +kernel
theorem dX1_isSame_560 : decode cX1_isSame 560 = .ok (.iconst 5, 1) := by decide +kernel
theorem dX1_isSame_561 : decode cX1_isSame 561 = .ok (.dup2, 1) := by decide +kernel
theorem dX1_isSame_562 : decode cX1_isSame 562 = .ok (.iaload, 1) := by decide +kernel
theorem dX1_isSame_563 : decode cX1_isSame 563 = .ok (.aload 7, 2) := by decide +kernel
theorem dX1_isSame_565 : decode cX1_isSame 565 = .ok (.iconst 5, 1) := by decide +kernel
theorem dX1_isSame_566 : decode cX1_isSame 566 = .ok (.iaload, 1) := by decide +kernel
theorem dX1_isSame_567 : decode cX1_isSame 567 = .ok (.iadd, 1) := by decide +kernel
theorem dX1_isSame_568 : decode cX1_isSame 568 = .ok (.iastore, 1) := by decide +kernel
theorem dX1_isSame_569 : decode cX1_isSame 569 = .ok (.aload 5, 2) := by decide +kernel
theorem dX1_isSame_571 : decode cX1_isSame 571 = .ok (.bipush 6, 2) := by decide +kernel
theorem dX1_isSame_573 : decode cX1_isSame 573 = .ok (.dup2, 1) := by decide +kernel
theorem dX1_isSame_574 : decode cX1_isSame 574 = .ok (.iaload, 1) := by decide +kernel
theorem dX1_isSame_575 : decode cX1_isSame 575 = .ok (.aload 7, 2) := by decide +kernel
theorem dX1_isSame_577 : decode cX1_isSame 577 = .ok (.bipush 6, 2) := by decide +kernel
theorem dX1_isSame_579 : decode cX1_isSame 579 = .ok (.iaload, 1) := by decide +kernel
theorem dX1_isSame_580 : decode cX1_isSame 580 = .ok (.ifCond .le 7, 3) := by decide +kernel
theorem dX1_isSame_583 : decode cX1_isSame 583 = .ok (.iconst 1, 1) := by decide +kernel
theorem dX1_isSame_584 : decode cX1_isSame 584 = .ok (.goto 4, 3) := by decide +kernel
theorem dX1_isSame_587 : decode cX1_isSame 587 = .ok (.iconst 0, 1) := by decide +kernel
theorem dX1_isSame_588 : decode cX1_isSame 588 = .ok (.iadd, 1) := by decide +kernel
theorem dX1_isSame_589 : decode cX1_isSame 589 = .ok (.iastore, 1) := by decide +kernel
theorem dX1_isSame_590 : decode cX1_isSame 590 = .ok (.iinc 6 1, 3) := by decide +kernel
theorem dX1_isSame_593 : decode cX1_isSame 593 = .ok (.goto (-481), 3) := by decide +kernel
theorem dX1_isSame_596 : decode cX1_isSame 596 = .ok (.iconst 0, 1) := by decide +kernel
theorem dX1_isSame_597 : decode cX1_isSame 597 = .ok (.istore 6, 2) := by decide +kernel
theorem dX1_isSame_599 : decode cX1_isSame 599 = .ok (.iload 6, 2) := by decide +kernel
theorem dX1_isSame_601 : decode cX1_isSame 601 = .ok (.bipush 7, 2) := by decide +kernel
theorem dX1_isSame_603 : decode cX1_isSame 603 = .ok (.if_icmp .ge 25, 3) := by decide +kernel
theorem dX1_isSame_606 : decode cX1_isSame 606 = .ok (.aload_n 1, 1) := by decide +kernel
theorem dX1_isSame_607 : decode cX1_isSame 607 = .ok (.iload 6, 2) := by decide +kernel
theorem dX1_isSame_609 : decode cX1_isSame 609 = .ok (.invokevirtual 77, 3) := by decide +kernel
theorem dX1_isSame_612 : decode cX1_isSame 612 = .ok (.aload 5, 2) := by decide +kernel
theorem dX1_isSame_614 : decode cX1_isSame 614 = .ok (.iload 6, 2) := by decide +kernel
theorem dX1_isSame_616 : decode cX1_isSame 616 = .ok (.iaload, 1) := by decide +kernel
theorem dX1_isSame_617 : decode cX1_isSame 617 = .ok (.if_icmp .eq 5, 3) := by decide +kernel
theorem dX1_isSame_620 : decode cX1_isSame 620 = .ok (.iconst 0, 1) := by decide +kernel
theorem dX1_isSame_621 : decode cX1_isSame 621 = .ok (.ireturn, 1) := by decide +kernel
theorem dX1_isSame_622 : decode cX1_isSame 622 = .ok (.iinc 6 1, 3) := by decide +kernel
theorem dX1_isSame_625 : decode cX1_isSame 625 = .ok (.goto (-26), 3) := by decide +kernel
theorem dX1_isSame_628 : decode cX1_isSame 628 = .ok (.aload_n 1, 1) := by decide +kernel
theorem dX1_isSame_629 : decode cX1_isSame 629 = .ok (.invokevirtual 80, 3) := by decide +kernel
theorem dX1_isSame_632 : decode cX1_isSame 632 = .ok (.aload_n 0, 1) := by decide +kernel
theorem dX1_isSame_633 : decode cX1_isSame 633 = .ok (.getfield 15, 3) := by decide +kernel
theorem dX1_isSame_636 : decode cX1_isSame 636 = .ok (.arraylength, 1) := by decide +kernel
theorem dX1_isSame_637 : decode cX1_isSame 637 = .ok (.ifCond .ne 7, 3) := by decide +kernel
theorem dX1_isSame_640 : decode cX1_isSame 640 = .ok (.dconst 0, 1) := by decide +kernel
theorem dX1_isSame_641 : decode cX1_isSame 641 = .ok (.goto 15, 3) := by decide +kernel
theorem dX1_isSame_644 : decode cX1_isSame 644 = .ok (.aload 5, 2) := by decide +kernel
theorem dX1_isSame_646 : decode cX1_isSame 646 = .ok (.iconst 4, 1) := by decide +kernel
theorem dX1_isSame_647 : decode cX1_isSame 647 = .ok (.iaload, 1) := by decide +kernel
theorem dX1_isSame_648 : decode cX1_isSame 648 = .ok (.i2d, 1) := by decide +kernel
theorem dX1_isSame_649 : decode cX1_isSame 649 = .ok (.aload_n 0, 1) := by decide +kernel
theorem dX1_isSame_650 : decode cX1_isSame 650 = .ok (.getfield 15, 3) := by decide +kernel
theorem dX1_isSame_653 : decode cX1_isSame 653 = .ok (.arraylength, 1) := by decide +kernel
theorem dX1_isSame_654 : decode cX1_isSame 654 = .ok (.i2d, 1) := by decide +kernel
theorem dX1_isSame_655 : decode cX1_isSame 655 = .ok (.ddiv, 1) := by decide +kernel
theorem dX1_isSame_656 : decode cX1_isSame 656 = .ok (.dcmp .l, 1) := by decide +kernel
theorem dX1_isSame_657 : decode cX1_isSame 657 = .ok (.ifCond .ne 7, 3) := by decide +kernel
theorem dX1_isSame_660 : decode cX1_isSame 660 = .ok (.iconst 1, 1) := by decide +kernel
theorem dX1_isSame_661 : decode cX1_isSame 661 = .ok (.goto 4, 3) := by decide +kernel
theorem dX1_isSame_664 : decode cX1_isSame 664 = .ok (.iconst 0, 1) := by decide +kernel
theorem dX1_isSame_665 : decode cX1_isSame 665 = .ok (.ireturn, 1) := by decide +kernel
theorem dJ9_max_7cf53_0 : decode cJ9_max_7cf53 0 = .ok (.iload_n 0, 1) := by decide +kernel
theorem dJ9_max_7cf53_1 : decode cJ9_max_7cf53 1 = .ok (.iload_n 1, 1) := by decide +kernel
theorem dJ9_max_7cf53_2 : decode cJ9_max_7cf53 2 = .ok (.if_icmp .lt 7, 3) := by decide +kernel
theorem dJ9_max_7cf53_5 : decode cJ9_max_7cf53 5 = .ok (.iload_n 0, 1) := by decide +kernel
theorem dJ9_max_7cf53_6 : decode cJ9_max_7cf53 6 = .ok (.goto 4, 3) := by decide +kernel
theorem dJ9_max_7cf53_9 : decode cJ9_max_7cf53 9 = .ok (.iload_n 1, 1) := by decide +kernel
theorem dJ9_max_7cf53_10 : decode cJ9_max_7cf53 10 = .ok (.ireturn, 1) := by decide +kernel
theorem dJ9_min_7cf53_0 : decode cJ9_min_7cf53 0 = .ok (.iload_n 0, 1) := by decide +kernel
theorem dJ9_min_7cf53_1 : decode cJ9_min_7cf53 1 = .ok (.iload_n 1, 1) := by decide +kernel
theorem dJ9_min_7cf53_2 : decode cJ9_min_7cf53 2 = .ok (.if_icmp .gt 7, 3) := by decide +kernel
theorem dJ9_min_7cf53_5 : decode cJ9_min_7cf53 5 = .ok (.iload_n 0, 1) := by decide +kernel
theorem dJ9_min_7cf53_6 : decode cJ9_min_7cf53 6 = .ok (.goto 4, 3) := by decide +kernel
theorem dJ9_min_7cf53_9 : decode cJ9_min_7cf53 9 = .ok (.iload_n 1, 1) := by decide +kernel
theorem dJ9_min_7cf53_10 : decode cJ9_min_7cf53 10 = .ok (.ireturn, 1) := by decide +kernel
theorem dJ7_fill_53178_0 : decode cJ7_fill_53178 0 = .ok (.iconst 0, 1) := by decide +kernel
theorem dJ7_fill_53178_1 : decode cJ7_fill_53178 1 = .ok (.istore_n 2, 1) := by decide +kernel
theorem dJ7_fill_53178_2 : decode cJ7_fill_53178 2 = .ok (.aload_n 0, 1) := by decide +kernel
theorem dJ7_fill_53178_3 : decode cJ7_fill_53178 3 = .ok (.arraylength, 1) := by decide +kernel
theorem dJ7_fill_53178_4 : decode cJ7_fill_53178 4 = .ok (.istore_n 3, 1) := by decide +kernel
theorem dJ7_fill_53178_5 : decode cJ7_fill_53178 5 = .ok (.iload_n 2, 1) := by decide +kernel
theorem dJ7_fill_53178_6 : decode cJ7_fill_53178 6 = .ok (.iload_n 3, 1) := by decide +kernel
theorem dJ7_fill_53178_7 : decode cJ7_fill_53178 7 = .ok (.if_icmp .ge 13, 3) := by decide +kernel
theorem dJ7_fill_53178_10 : decode cJ7_fill_53178 10 = .ok (.aload_n 0, 1) := by decide +kernel
theorem dJ7_fill_53178_11 : decode cJ7_fill_53178 11 = .ok (.iload_n 2, 1) := by decide +kernel
theorem dJ7_fill_53178_12 : decode cJ7_fill_53178 12 = .ok (.iload_n 1, 1) := by decide +kernel
theorem dJ7_fill_53178_13 : decode cJ7_fill_53178 13 = .ok (.iastore, 1) := by decide +kernel
theorem dJ7_fill_53178_14 : decode cJ7_fill_53178 14 = .ok (.iinc 2 1, 3) := by decide +kernel
theorem dJ7_fill_53178_17 : decode cJ7_fill_53178 17 = .ok (.goto (-12), 3) := by decide +kernel
theorem dJ7_fill_53178_20 : decode cJ7_fill_53178 20 = .ok (.return_, 1) := by decide +kernel
theorem dL_below_0 : decode cL_below 0 = .ok (.iload_n 0, 1) := by decide +kernel
theorem dL_below_1 : decode cL_below 1 = .ok (.ldc 7, 2) := by decide +kernel
theorem dL_below_3 : decode cL_below 3 = .ok (.iand, 1) := by decide +kernel
theorem dL_below_4 : decode cL_below 4 = .ok (.iload_n 1, 1) := by decide +kernel
theorem dL_below_5 : decode cL_below 5 = .ok (.irem, 1) := by decide +kernel
theorem dL_below_6 : decode cL_below 6 = .ok (.ireturn, 1) := by decide +kernel
theorem dL_cell_0 : decode cL_cell 0 = .ok (.iload_n 1, 1) := by decide +kernel
theorem dL_cell_1 : decode cL_cell 1 = .ok (.aload_n 0, 1) := by decide +kernel
theorem dL_cell_2 : decode cL_cell 2 = .ok (.arraylength, 1) := by decide +kernel
theorem dL_cell_3 : decode cL_cell 3 = .ok (.if_icmp .ge 9, 3) := by decide +kernel
theorem dL_cell_6 : decode cL_cell 6 = .ok (.aload_n 0, 1) := by decide +kernel
theorem dL_cell_7 : decode cL_cell 7 = .ok (.iload_n 1, 1) := by decide +kernel
theorem dL_cell_8 : decode cL_cell 8 = .ok (.iaload, 1) := by decide +kernel
theorem dL_cell_9 : decode cL_cell 9 = .ok (.goto 9, 3) := by decide +kernel
theorem dL_cell_12 : decode cL_cell 12 = .ok (.ldc 8, 2) := by decide +kernel
theorem dL_cell_14 : decode cL_cell 14 = .ok (.iload_n 1, 1) := by decide +kernel
theorem dL_cell_15 : decode cL_cell 15 = .ok (.iconst 3, 1) := by decide +kernel
theorem dL_cell_16 : decode cL_cell 16 = .ok (.iadd, 1) := by decide +kernel
theorem dL_cell_17 : decode cL_cell 17 = .ok (.imul, 1) := by decide +kernel
theorem dL_cell_18 : decode cL_cell 18 = .ok (.ireturn, 1) := by decide +kernel
theorem dL_act_0 : decode cL_act 0 = .ok (.aload_n 1, 1) := by decide +kernel
theorem dL_act_1 : decode cL_act 1 = .ok (.getfield 9, 3) := by decide +kernel
theorem dL_act_4 : decode cL_act 4 = .ok (.arraylength, 1) := by decide +kernel
theorem dL_act_5 : decode cL_act 5 = .ok (.istore_n 3, 1) := by decide +kernel
theorem dL_act_6 : decode cL_act 6 = .ok (.iload_n 2, 1) := by decide +kernel
theorem dL_act_7 : decode cL_act 7 = .ok (.iconst 4, 1) := by decide +kernel
theorem dL_act_8 : decode cL_act 8 = .ok (.ishr, 1) := by decide +kernel
theorem dL_act_9 : decode cL_act 9 = .ok (.iload_n 3, 1) := by decide +kernel
theorem dL_act_10 : decode cL_act 10 = .ok (.invokestatic 15, 3) := by decide +kernel
theorem dL_act_13 : decode cL_act 13 = .ok (.istore 4, 2) := by decide +kernel
theorem dL_act_15 : decode cL_act 15 = .ok (.aload_n 1, 1) := by decide +kernel
theorem dL_act_16 : decode cL_act 16 = .ok (.getfield 9, 3) := by decide +kernel
theorem dL_act_19 : decode cL_act 19 = .ok (.iload 4, 2) := by decide +kernel
theorem dL_act_21 : decode cL_act 21 = .ok (.aaload, 1) := by decide +kernel
theorem dL_act_22 : decode cL_act 22 = .ok (.arraylength, 1) := by decide +kernel
theorem dL_act_23 : decode cL_act 23 = .ok (.istore 5, 2) := by decide +kernel
theorem dL_act_25 : decode cL_act 25 = .ok (.iload_n 2, 1) := by decide +kernel
theorem dL_act_26 : decode cL_act 26 = .ok (.bipush 16, 2) := by decide +kernel
theorem dL_act_28 : decode cL_act 28 = .ok (.invokestatic 15, 3) := by decide +kernel
theorem dL_act_31 : decode cL_act 31 = .ok (.tableswitch 525 0 7 #[45, 109, 158, 158, 212, 270, 270, 270], 45) := by decide +kernel
theorem dL_act_76 : decode cL_act 76 = .ok (.iload_n 2, 1) := by decide +kernel
theorem dL_act_77 : decode cL_act 77 = .ok (.bipush 6, 2) := by decide +kernel
theorem dL_act_79 : decode cL_act 79 = .ok (.ishr, 1) := by decide +kernel
theorem dL_act_80 : decode cL_act 80 = .ok (.iconst 5, 1) := by decide +kernel
theorem dL_act_81 : decode cL_act 81 = .ok (.invokestatic 15, 3) := by decide +kernel
theorem dL_act_84 : decode cL_act 84 = .ok (.istore 8, 2) := by decide +kernel
theorem dL_act_86 : decode cL_act 86 = .ok (.iload_n 2, 1) := by decide +kernel
theorem dL_act_87 : decode cL_act 87 = .ok (.iconst 4, 1) := by decide +kernel
theorem dL_act_88 : decode cL_act 88 = .ok (.ishr, 1) := by decide +kernel
theorem dL_act_89 : decode cL_act 89 = .ok (.iconst 3, 1) := by decide +kernel
theorem dL_act_90 : decode cL_act 90 = .ok (.invokestatic 15, 3) := by decide +kernel
theorem dL_act_93 : decode cL_act 93 = .ok (.ifCond .le 7, 3) := by decide +kernel
theorem dL_act_96 : decode cL_act 96 = .ok (.iconst 1, 1) := by decide +kernel
theorem dL_act_97 : decode cL_act 97 = .ok (.goto 4, 3) := by decide +kernel
theorem dL_act_100 : decode cL_act 100 = .ok (.iconst 0, 1) := by decide +kernel
theorem dL_act_101 : decode cL_act 101 = .ok (.istore 9, 2) := by decide +kernel
theorem dL_act_103 : decode cL_act 103 = .ok (.aload_n 1, 1) := by decide +kernel
theorem dL_act_104 : decode cL_act 104 = .ok (.getfield 21, 3) := by decide +kernel
theorem dL_act_107 : decode cL_act 107 = .ok (.iload 8, 2) := by decide +kernel
theorem dL_act_109 : decode cL_act 109 = .ok (.baload, 1) := by decide +kernel
theorem dL_act_110 : decode cL_act 110 = .ok (.istore 10, 2) := by decide +kernel
theorem dL_act_112 : decode cL_act 112 = .ok (.aload_n 1, 1) := by decide +kernel
theorem dL_act_113 : decode cL_act 113 = .ok (.getfield 21, 3) := by decide +kernel
theorem dL_act_116 : decode cL_act 116 = .ok (.iload 8, 2) := by decide +kernel
theorem dL_act_118 : decode cL_act 118 = .ok (.iload 9, 2) := by decide +kernel
theorem dL_act_120 : decode cL_act 120 = .ok (.bastore, 1) := by decide +kernel
theorem dL_act_121 : decode cL_act 121 = .ok (.aload_n 0, 1) := by decide +kernel
theorem dL_act_122 : decode cL_act 122 = .ok (.iload 8, 2) := by decide +kernel
theorem dL_act_124 : decode cL_act 124 = .ok (.iload 9, 2) := by decide +kernel
theorem dL_act_126 : decode cL_act 126 = .ok (.invokevirtual 25, 3) := by decide +kernel
theorem dL_act_129 : decode cL_act 129 = .ok (.iload 10, 2) := by decide +kernel
theorem dL_act_131 : decode cL_act 131 = .ok (.if_icmp .ne 7, 3) := by decide +kernel
theorem dL_act_134 : decode cL_act 134 = .ok (.iconst 1, 1) := by decide +kernel
theorem dL_act_135 : decode cL_act 135 = .ok (.goto 4, 3) := by decide +kernel
theorem dL_act_138 : decode cL_act 138 = .ok (.iconst 0, 1) := by decide +kernel
theorem dL_act_139 : decode cL_act 139 = .ok (.ireturn, 1) := by decide +kernel
theorem dL_act_140 : decode cL_act 140 = .ok (.iload_n 3, 1) := by decide +kernel
theorem dL_act_141 : decode cL_act 141 = .ok (.bipush 12, 2) := by decide +kernel
theorem dL_act_143 : decode cL_act 143 = .ok (.if_icmp .ge 7, 3) := by decide +kernel
theorem dL_act_146 : decode cL_act 146 = .ok (.iload_n 3, 1) := by decide +kernel
theorem dL_act_147 : decode cL_act 147 = .ok (.goto 4, 3) := by decide +kernel
theorem dL_act_150 : decode cL_act 150 = .ok (.iconst (-1), 1) := by decide +kernel
theorem dL_act_151 : decode cL_act 151 = .ok (.istore 7, 2) := by decide +kernel
theorem dL_act_153 : decode cL_act 153 = .ok (.iload 7, 2) := by decide +kernel
theorem dL_act_155 : decode cL_act 155 = .ok (.ifCond .lt 7, 3) := by decide +kernel
theorem dL_act_158 : decode cL_act 158 = .ok (.aload_n 1, 1) := by decide +kernel
theorem dL_act_159 : decode cL_act 159 = .ok (.invokevirtual 31, 3) := by decide +kernel
theorem dL_act_162 : decode cL_act 162 = .ok (.aload_n 0, 1) := by decide +kernel
theorem dL_act_163 : decode cL_act 163 = .ok (.invokevirtual 34, 3) := by decide +kernel
theorem dL_act_166 : decode cL_act 166 = .ok (.istore 6, 2) := by decide +kernel
theorem dL_act_168 : decode cL_act 168 = .ok (.goto 8, 3) := by decide +kernel
theorem dL_act_171 : decode cL_act 171 = .ok (.astore 8, 2) := by decide +kernel
theorem dL_act_173 : decode cL_act 173 = .ok (.iconst (-1), 1) := by decide +kernel
theorem dL_act_174 : decode cL_act 174 = .ok (.istore 6, 2) := by decide +kernel
theorem dL_act_176 : decode cL_act 176 = .ok (.iload 6, 2) := by decide +kernel
theorem dL_act_178 : decode cL_act 178 = .ok (.iload 7, 2) := by decide +kernel
theorem dL_act_180 : decode cL_act 180 = .ok (.if_icmp .ne 7, 3) := by decide +kernel
theorem dL_act_183 : decode cL_act 183 = .ok (.iconst 1, 1) := by decide +kernel
theorem dL_act_184 : decode cL_act 184 = .ok (.goto 4, 3) := by decide +kernel
theorem dL_act_187 : decode cL_act 187 = .ok (.iconst 0, 1) := by decide +kernel
theorem dL_act_188 : decode cL_act 188 = .ok (.ireturn, 1) := by decide +kernel
theorem dL_act_189 : decode cL_act 189 = .ok (.iload 5, 2) := by decide +kernel
theorem dL_act_191 : decode cL_act 191 = .ok (.iconst 3, 1) := by decide +kernel
theorem dL_act_192 : decode cL_act 192 = .ok (.if_icmp .ge 8, 3) := by decide +kernel
theorem dL_act_195 : decode cL_act 195 = .ok (.iload 5, 2) := by decide +kernel
theorem dL_act_197 : decode cL_act 197 = .ok (.goto 4, 3) := by decide +kernel
theorem dL_act_200 : decode cL_act 200 = .ok (.iconst (-1), 1) := by decide +kernel
theorem dL_act_201 : decode cL_act 201 = .ok (.istore 7, 2) := by decide +kernel
theorem dL_act_203 : decode cL_act 203 = .ok (.iload 7, 2) := by decide +kernel
theorem dL_act_205 : decode cL_act 205 = .ok (.ifCond .lt 9, 3) := by decide +kernel
theorem dL_act_208 : decode cL_act 208 = .ok (.aload_n 1, 1) := by decide +kernel
theorem dL_act_209 : decode cL_act 209 = .ok (.iload 4, 2) := by decide +kernel
theorem dL_act_211 : decode cL_act 211 = .ok (.invokevirtual 39, 3) := by decide +kernel
theorem dL_act_214 : decode cL_act 214 = .ok (.aload_n 0, 1) := by decide +kernel
theorem dL_act_215 : decode cL_act 215 = .ok (.iload 4, 2) := by decide +kernel
theorem dL_act_217 : decode cL_act 217 = .ok (.invokevirtual 43, 3) := by decide +kernel
theorem dL_act_220 : decode cL_act 220 = .ok (.istore 6, 2) := by decide +kernel
theorem dL_act_222 : decode cL_act 222 = .ok (.goto 8, 3) := by decide +kernel
theorem dL_act_225 : decode cL_act 225 = .ok (.astore 8, 2) := by decide +kernel
theorem dL_act_227 : decode cL_act 227 = .ok (.iconst (-1), 1) := by decide +kernel
theorem dL_act_228 : decode cL_act 228 = .ok (.istore 6, 2) := by decide +kernel
theorem dL_act_230 : decode cL_act 230 = .ok (.iload 6, 2) := by decide +kernel
theorem dL_act_232 : decode cL_act 232 = .ok (.iload 7, 2) := by decide +kernel
theorem dL_act_234 : decode cL_act 234 = .ok (.if_icmp .ne 7, 3) := by decide +kernel
theorem dL_act_237 : decode cL_act 237 = .ok (.iconst 1, 1) := by decide +kernel
theorem dL_act_238 : decode cL_act 238 = .ok (.goto 4, 3) := by decide +kernel
theorem dL_act_241 : decode cL_act 241 = .ok (.iconst 0, 1) := by decide +kernel
theorem dL_act_242 : decode cL_act 242 = .ok (.ireturn, 1) := by decide +kernel
theorem dL_act_243 : decode cL_act 243 = .ok (.iload 5, 2) := by decide +kernel
theorem dL_act_245 : decode cL_act 245 = .ok (.ifCond .eq 14, 3) := by decide +kernel
theorem dL_act_248 : decode cL_act 248 = .ok (.iload_n 2, 1) := by decide +kernel
theorem dL_act_249 : decode cL_act 249 = .ok (.bipush 7, 2) := by decide +kernel
theorem dL_act_251 : decode cL_act 251 = .ok (.ishr, 1) := by decide +kernel
theorem dL_act_252 : decode cL_act 252 = .ok (.iconst 3, 1) := by decide +kernel
theorem dL_act_253 : decode cL_act 253 = .ok (.invokestatic 15, 3) := by decide +kernel
theorem dL_act_256 : decode cL_act 256 = .ok (.ifCond .le 5, 3) := by decide +kernel
theorem dL_act_259 : decode cL_act 259 = .ok (.iconst 1, 1) := by decide +kernel
theorem dL_act_260 : decode cL_act 260 = .ok (.ireturn, 1) := by decide +kernel
theorem dL_act_261 : decode cL_act 261 = .ok (.iload_n 2, 1) := by decide +kernel
theorem dL_act_262 : decode cL_act 262 = .ok (.bipush 8, 2) := by decide +kernel
theorem dL_act_264 : decode cL_act 264 = .ok (.ishr, 1) := by decide +kernel
theorem dL_act_265 : decode cL_act 265 = .ok (.iload 5, 2) := by decide +kernel
theorem dL_act_267 : decode cL_act 267 = .ok (.invokestatic 15, 3) := by decide +kernel
theorem dL_act_270 : decode cL_act 270 = .ok (.istore 8, 2) := by decide +kernel
theorem dL_act_272 : decode cL_act 272 = .ok (.aload_n 1, 1) := by decide +kernel
theorem dL_act_273 : decode cL_act 273 = .ok (.iload 4, 2) := by decide +kernel
theorem dL_act_275 : decode cL_act 275 = .ok (.iload 8, 2) := by decide +kernel
theorem dL_act_277 : decode cL_act 277 = .ok (.invokevirtual 46, 3) := by decide +kernel
theorem dL_act_280 : decode cL_act 280 = .ok (.aload_n 0, 1) := by decide +kernel
theorem dL_act_281 : decode cL_act 281 = .ok (.iload 4, 2) := by decide +kernel
theorem dL_act_283 : decode cL_act 283 = .ok (.iload 8, 2) := by decide +kernel
theorem dL_act_285 : decode cL_act 285 = .ok (.invokevirtual 50, 3) := by decide +kernel
theorem dL_act_288 : decode cL_act 288 = .ok (.iload 5, 2) := by decide +kernel
theorem dL_act_290 : decode cL_act 290 = .ok (.iconst 1, 1) := by decide +kernel
theorem dL_act_291 : decode cL_act 291 = .ok (.isub, 1) := by decide +kernel
theorem dL_act_292 : decode cL_act 292 = .ok (.if_icmp .ne 7, 3) := by decide +kernel
theorem dL_act_295 : decode cL_act 295 = .ok (.iconst 1, 1) := by decide +kernel
theorem dL_act_296 : decode cL_act 296 = .ok (.goto 4, 3) := by decide +kernel
theorem dL_act_299 : decode cL_act 299 = .ok (.iconst 0, 1) := by decide +kernel
theorem dL_act_300 : decode cL_act 300 = .ok (.ireturn, 1) := by decide +kernel
theorem dL_act_301 : decode cL_act 301 = .ok (.iload 5, 2) := by decide +kernel
theorem dL_act_303 : decode cL_act 303 = .ok (.ifCond .ne 5, 3) := by decide +kernel
theorem dL_act_306 : decode cL_act 306 = .ok (.iconst 1, 1) := by decide +kernel
theorem dL_act_307 : decode cL_act 307 = .ok (.ireturn, 1) := by decide +kernel
theorem dL_act_308 : decode cL_act 308 = .ok (.iload_n 2, 1) := by decide +kernel
theorem dL_act_309 : decode cL_act 309 = .ok (.bipush 8, 2) := by decide +kernel
theorem dL_act_311 : decode cL_act 311 = .ok (.ishr, 1) := by decide +kernel
theorem dL_act_312 : decode cL_act 312 = .ok (.iload 5, 2) := by decide +kernel
theorem dL_act_314 : decode cL_act 314 = .ok (.invokestatic 15, 3) := by decide +kernel
theorem dL_act_317 : decode cL_act 317 = .ok (.istore 8, 2) := by decide +kernel
theorem dL_act_319 : decode cL_act 319 = .ok (.aload_n 1, 1) := by decide +kernel
theorem dL_act_320 : decode cL_act 320 = .ok (.getfield 9, 3) := by decide +kernel
theorem dL_act_323 : decode cL_act 323 = .ok (.iload 4, 2) := by decide +kernel
theorem dL_act_325 : decode cL_act 325 = .ok (.aaload, 1) := by decide +kernel
theorem dL_act_326 : decode cL_act 326 = .ok (.iload 8, 2) := by decide +kernel
theorem dL_act_328 : decode cL_act 328 = .ok (.aaload, 1) := by decide +kernel
theorem dL_act_329 : decode cL_act 329 = .ok (.astore 9, 2) := by decide +kernel
theorem dL_act_331 : decode cL_act 331 = .ok (.aload 9, 2) := by decide +kernel
theorem dL_act_333 : decode cL_act 333 = .ok (.arraylength, 1) := by decide +kernel
theorem dL_act_334 : decode cL_act 334 = .ok (.ifCond .ne 5, 3) := by decide +kernel
theorem dL_act_337 : decode cL_act 337 = .ok (.iconst 1, 1) := by decide +kernel
theorem dL_act_338 : decode cL_act 338 = .ok (.ireturn, 1) := by decide +kernel
theorem dL_act_339 : decode cL_act 339 = .ok (.iload_n 2, 1) := by decide +kernel
theorem dL_act_340 : decode cL_act 340 = .ok (.bipush 6, 2) := by decide +kernel
theorem dL_act_342 : decode cL_act 342 = .ok (.ishr, 1) := by decide +kernel
theorem dL_act_343 : decode cL_act 343 = .ok (.aload 9, 2) := by decide +kernel
theorem dL_act_345 : decode cL_act 345 = .ok (.arraylength, 1) := by decide +kernel
theorem dL_act_346 : decode cL_act 346 = .ok (.invokestatic 15, 3) := by decide +kernel
theorem dL_act_349 : decode cL_act 349 = .ok (.istore 10, 2) := by decide +kernel
theorem dL_act_351 : decode cL_act 351 = .ok (.iconst 0, 1) := by decide +kernel
theorem dL_act_352 : decode cL_act 352 = .ok (.istore 11, 2) := by decide +kernel
theorem dL_act_354 : decode cL_act 354 = .ok (.iload 11, 2) := by decide +kernel
theorem dL_act_356 : decode cL_act 356 = .ok (.aload 9, 2) := by decide +kernel
theorem dL_act_358 : decode cL_act 358 = .ok (.arraylength, 1) := by decide +kernel
theorem dL_act_359 : decode cL_act 359 = .ok (.if_icmp .ge 44, 3) := by decide +kernel
theorem dL_act_362 : decode cL_act 362 = .ok (.iload_n 2, 1) := by decide +kernel
theorem dL_act_363 : decode cL_act 363 = .ok (.iconst 5, 1) := by decide +kernel
theorem dL_act_364 : decode cL_act 364 = .ok (.ishr, 1) := by decide +kernel
theorem dL_act_365 : decode cL_act 365 = .ok (.iconst 4, 1) := by decide +kernel
theorem dL_act_366 : decode cL_act 366 = .ok (.invokestatic 15, 3) := by decide +kernel
theorem dL_act_369 : decode cL_act 369 = .ok (.ifCond .le 34, 3) := by decide +kernel
theorem dL_act_372 : decode cL_act 372 = .ok (.aload 9, 2) := by decide +kernel
theorem dL_act_374 : decode cL_act 374 = .ok (.iload 11, 2) := by decide +kernel
theorem dL_act_376 : decode cL_act 376 = .ok (.aaload, 1) := by decide +kernel
theorem dL_act_377 : decode cL_act 377 = .ok (.iconst 0, 1) := by decide +kernel
theorem dL_act_378 : decode cL_act 378 = .ok (.iaload, 1) := by decide +kernel
theorem dL_act_379 : decode cL_act 379 = .ok (.iconst 2, 1) := by decide +kernel
theorem dL_act_380 : decode cL_act 380 = .ok (.if_icmp .ne 17, 3) := by decide +kernel
theorem dL_act_383 : decode cL_act 383 = .ok (.aload 9, 2) := by decide +kernel
theorem dL_act_385 : decode cL_act 385 = .ok (.iload 11, 2) := by decide +kernel
theorem dL_act_387 : decode cL_act 387 = .ok (.aaload, 1) := by decide +kernel
theorem dL_act_388 : decode cL_act 388 = .ok (.iconst 2, 1) := by decide +kernel
theorem dL_act_389 : decode cL_act 389 = .ok (.iaload, 1) := by decide +kernel
theorem dL_act_390 : decode cL_act 390 = .ok (.ifCond .le 7, 3) := by decide +kernel
theorem dL_act_393 : decode cL_act 393 = .ok (.iload 11, 2) := by decide +kernel
theorem dL_act_395 : decode cL_act 395 = .ok (.istore 10, 2) := by decide +kernel
theorem dL_act_397 : decode cL_act 397 = .ok (.iinc 11 1, 3) := by decide +kernel
theorem dL_act_400 : decode cL_act 400 = .ok (.goto (-46), 3) := by decide +kernel
theorem dL_act_403 : decode cL_act 403 = .ok (.iload_n 2, 1) := by decide +kernel
theorem dL_act_404 : decode cL_act 404 = .ok (.bipush 9, 2) := by decide +kernel
theorem dL_act_406 : decode cL_act 406 = .ok (.ishr, 1) := by decide +kernel
theorem dL_act_407 : decode cL_act 407 = .ok (.iconst 3, 1) := by decide +kernel
theorem dL_act_408 : decode cL_act 408 = .ok (.invokestatic 15, 3) := by decide +kernel
theorem dL_act_411 : decode cL_act 411 = .ok (.ifCond .ne 54, 3) := by decide +kernel
theorem dL_act_414 : decode cL_act 414 = .ok (.aload 9, 2) := by decide +kernel
theorem dL_act_416 : decode cL_act 416 = .ok (.iload 10, 2) := by decide +kernel
theorem dL_act_418 : decode cL_act 418 = .ok (.aaload, 1) := by decide +kernel
theorem dL_act_419 : decode cL_act 419 = .ok (.iconst 3, 1) := by decide +kernel
theorem dL_act_420 : decode cL_act 420 = .ok (.iconst 1, 1) := by decide +kernel
theorem dL_act_421 : decode cL_act 421 = .ok (.aload 9, 2) := by decide +kernel
theorem dL_act_423 : decode cL_act 423 = .ok (.iload 10, 2) := by decide +kernel
theorem dL_act_425 : decode cL_act 425 = .ok (.aaload, 1) := by decide +kernel
theorem dL_act_426 : decode cL_act 426 = .ok (.iconst 3, 1) := by decide +kernel
theorem dL_act_427 : decode cL_act 427 = .ok (.iaload, 1) := by decide +kernel
theorem dL_act_428 : decode cL_act 428 = .ok (.isub, 1) := by decide +kernel
theorem dL_act_429 : decode cL_act 429 = .ok (.iastore, 1) := by decide +kernel
theorem dL_act_430 : decode cL_act 430 = .ok (.aload_n 0, 1) := by decide +kernel
theorem dL_act_431 : decode cL_act 431 = .ok (.iload 4, 2) := by decide +kernel
theorem dL_act_433 : decode cL_act 433 = .ok (.iload 8, 2) := by decide +kernel
theorem dL_act_435 : decode cL_act 435 = .ok (.iload 10, 2) := by decide +kernel
theorem dL_act_437 : decode cL_act 437 = .ok (.invokevirtual 52, 3) := by decide +kernel
theorem dL_act_440 : decode cL_act 440 = .ok (.aload 9, 2) := by decide +kernel
theorem dL_act_442 : decode cL_act 442 = .ok (.iload 10, 2) := by decide +kernel
theorem dL_act_444 : decode cL_act 444 = .ok (.aaload, 1) := by decide +kernel
theorem dL_act_445 : decode cL_act 445 = .ok (.iconst 3, 1) := by decide +kernel
theorem dL_act_446 : decode cL_act 446 = .ok (.iaload, 1) := by decide +kernel
theorem dL_act_447 : decode cL_act 447 = .ok (.iconst 1, 1) := by decide +kernel
theorem dL_act_448 : decode cL_act 448 = .ok (.if_icmp .ne 7, 3) := by decide +kernel
theorem dL_act_451 : decode cL_act 451 = .ok (.iconst 1, 1) := by decide +kernel
theorem dL_act_452 : decode cL_act 452 = .ok (.goto 4, 3) := by decide +kernel
theorem dL_act_455 : decode cL_act 455 = .ok (.iconst 0, 1) := by decide +kernel
theorem dL_act_456 : decode cL_act 456 = .ok (.if_icmp .ne 7, 3) := by decide +kernel
theorem dL_act_459 : decode cL_act 459 = .ok (.iconst 1, 1) := by decide +kernel
theorem dL_act_460 : decode cL_act 460 = .ok (.goto 4, 3) := by decide +kernel
theorem dL_act_463 : decode cL_act 463 = .ok (.iconst 0, 1) := by decide +kernel
theorem dL_act_464 : decode cL_act 464 = .ok (.ireturn, 1) := by decide +kernel
theorem dL_act_465 : decode cL_act 465 = .ok (.iconst 1, 1) := by decide +kernel
theorem dL_act_466 : decode cL_act 466 = .ok (.iload_n 2, 1) := by decide +kernel
theorem dL_act_467 : decode cL_act 467 = .ok (.iconst 4, 1) := by decide +kernel
theorem dL_act_468 : decode cL_act 468 = .ok (.ishr, 1) := by decide +kernel
theorem dL_act_469 : decode cL_act 469 = .ok (.bipush 9, 2) := by decide +kernel
theorem dL_act_471 : decode cL_act 471 = .ok (.invokestatic 15, 3) := by decide +kernel
theorem dL_act_474 : decode cL_act 474 = .ok (.iadd, 1) := by decide +kernel
theorem dL_act_475 : decode cL_act 475 = .ok (.istore 11, 2) := by decide +kernel
theorem dL_act_477 : decode cL_act 477 = .ok (.aload 9, 2) := by decide +kernel
theorem dL_act_479 : decode cL_act 479 = .ok (.iload 10, 2) := by decide +kernel
theorem dL_act_481 : decode cL_act 481 = .ok (.aaload, 1) := by decide +kernel
theorem dL_act_482 : decode cL_act 482 = .ok (.iconst 2, 1) := by decide +kernel
theorem dL_act_483 : decode cL_act 483 = .ok (.iaload, 1) := by decide +kernel
theorem dL_act_484 : decode cL_act 484 = .ok (.ifCond .ne 7, 3) := by decide +kernel
theorem dL_act_487 : decode cL_act 487 = .ok (.iconst (-1), 1) := by decide +kernel
theorem dL_act_488 : decode cL_act 488 = .ok (.goto 17, 3) := by decide +kernel
theorem dL_act_491 : decode cL_act 491 = .ok (.iconst 0, 1) := by decide +kernel
theorem dL_act_492 : decode cL_act 492 = .ok (.aload 9, 2) := by decide +kernel
theorem dL_act_494 : decode cL_act 494 = .ok (.iload 10, 2) := by decide +kernel
theorem dL_act_496 : decode cL_act 496 = .ok (.aaload, 1) := by decide +kernel
theorem dL_act_497 : decode cL_act 497 = .ok (.iconst 2, 1) := by decide +kernel
theorem dL_act_498 : decode cL_act 498 = .ok (.iaload, 1) := by decide +kernel
theorem dL_act_499 : decode cL_act 499 = .ok (.iload 11, 2) := by decide +kernel
theorem dL_act_501 : decode cL_act 501 = .ok (.isub, 1) := by decide +kernel
theorem dL_act_502 : decode cL_act 502 = .ok (.invokestatic 56, 3) := by decide +kernel
theorem dL_act_505 : decode cL_act 505 = .ok (.istore 7, 2) := by decide +kernel
theorem dL_act_507 : decode cL_act 507 = .ok (.iload 7, 2) := by decide +kernel
theorem dL_act_509 : decode cL_act 509 = .ok (.ifCond .lt 12, 3) := by decide +kernel
theorem dL_act_512 : decode cL_act 512 = .ok (.aload 9, 2) := by decide +kernel
theorem dL_act_514 : decode cL_act 514 = .ok (.iload 10, 2) := by decide +kernel
theorem dL_act_516 : decode cL_act 516 = .ok (.aaload, 1) := by decide +kernel
theorem dL_act_517 : decode cL_act 517 = .ok (.iconst 2, 1) := by decide +kernel
theorem dL_act_518 : decode cL_act 518 = .ok (.iload 7, 2) := by decide +kernel
theorem dL_act_520 : decode cL_act 520 = .ok (.iastore, 1) := by decide +kernel
theorem dL_act_521 : decode cL_act 521 = .ok (.aload_n 0, 1) := by decide +kernel
theorem dL_act_522 : decode cL_act 522 = .ok (.iload 4, 2) := by decide +kernel
theorem dL_act_524 : decode cL_act 524 = .ok (.iload 8, 2) := by decide +kernel
theorem dL_act_526 : decode cL_act 526 = .ok (.iload 10, 2) := by decide +kernel
theorem dL_act_528 : decode cL_act 528 = .ok (.iload 11, 2) := by decide +kernel
theorem dL_act_530 : decode cL_act 530 = .ok (.invokevirtual 61, 3) := by decide +kernel
theorem dL_act_533 : decode cL_act 533 = .ok (.istore 6, 2) := by decide +kernel
theorem dL_act_535 : decode cL_act 535 = .ok (.goto 8, 3) := by decide +kernel
theorem dL_act_538 : decode cL_act 538 = .ok (.astore 12, 2) := by decide +kernel
theorem dL_act_540 : decode cL_act 540 = .ok (.iconst (-1), 1) := by decide +kernel
theorem dL_act_541 : decode cL_act 541 = .ok (.istore 6, 2) := by decide +kernel
theorem dL_act_543 : decode cL_act 543 = .ok (.iload 6, 2) := by decide +kernel
theorem dL_act_545 : decode cL_act 545 = .ok (.iload 7, 2) := by decide +kernel
theorem dL_act_547 : decode cL_act 547 = .ok (.if_icmp .ne 7, 3) := by decide +kernel
theorem dL_act_550 : decode cL_act 550 = .ok (.iconst 1, 1) := by decide +kernel
theorem dL_act_551 : decode cL_act 551 = .ok (.goto 4, 3) := by decide +kernel
theorem dL_act_554 : decode cL_act 554 = .ok (.iconst 0, 1) := by decide +kernel
theorem dL_act_555 : decode cL_act 555 = .ok (.ireturn, 1) := by decide +kernel
theorem dL_act_556 : decode cL_act 556 = .ok (.iload 5, 2) := by decide +kernel
theorem dL_act_558 : decode cL_act 558 = .ok (.ifCond .ne 5, 3) := by decide +kernel
theorem dL_act_561 : decode cL_act 561 = .ok (.iconst 1, 1) := by decide +kernel
theorem dL_act_562 : decode cL_act 562 = .ok (.ireturn, 1) := by decide +kernel
theorem dL_act_563 : decode cL_act 563 = .ok (.iload_n 2, 1) := by decide +kernel
theorem dL_act_564 : decode cL_act 564 = .ok (.bipush 8, 2) := by decide +kernel
theorem dL_act_566 : decode cL_act 566 = .ok (.ishr, 1) := by decide +kernel
theorem dL_act_567 : decode cL_act 567 = .ok (.iload 5, 2) := by decide +kernel
theorem dL_act_569 : decode cL_act 569 = .ok (.invokestatic 15, 3) := by decide +kernel
theorem dL_act_572 : decode cL_act 572 = .ok (.istore 8, 2) := by decide +kernel
theorem dL_act_574 : decode cL_act 574 = .ok (.iload_n 2, 1) := by decide +kernel
theorem dL_act_575 : decode cL_act 575 = .ok (.iconst 5, 1) := by decide +kernel
theorem dL_act_576 : decode cL_act 576 = .ok (.ishr, 1) := by decide +kernel
theorem dL_act_577 : decode cL_act 577 = .ok (.iconst 3, 1) := by decide +kernel
theorem dL_act_578 : decode cL_act 578 = .ok (.invokestatic 15, 3) := by decide +kernel
theorem dL_act_581 : decode cL_act 581 = .ok (.istore 9, 2) := by decide +kernel
theorem dL_act_583 : decode cL_act 583 = .ok (.iload 9, 2) := by decide +kernel
theorem dL_act_585 : decode cL_act 585 = .ok (.ifCond .ne 14, 3) := by decide +kernel
theorem dL_act_588 : decode cL_act 588 = .ok (.iload_n 2, 1) := by decide +kernel
theorem dL_act_589 : decode cL_act 589 = .ok (.bipush 7, 2) := by decide +kernel
theorem dL_act_591 : decode cL_act 591 = .ok (.ishr, 1) := by decide +kernel
theorem dL_act_592 : decode cL_act 592 = .ok (.iconst 5, 1) := by decide +kernel
theorem dL_act_593 : decode cL_act 593 = .ok (.invokestatic 15, 3) := by decide +kernel
theorem dL_act_596 : decode cL_act 596 = .ok (.goto 49, 3) := by decide +kernel
theorem dL_act_599 : decode cL_act 599 = .ok (.iload 9, 2) := by decide +kernel
theorem dL_act_601 : decode cL_act 601 = .ok (.iconst 1, 1) := by decide +kernel
theorem dL_act_602 : decode cL_act 602 = .ok (.if_icmp .ne 32, 3) := by decide +kernel
theorem dL_act_605 : decode cL_act 605 = .ok (.iload_n 2, 1) := by decide +kernel
theorem dL_act_606 : decode cL_act 606 = .ok (.bipush 7, 2) := by decide +kernel
theorem dL_act_608 : decode cL_act 608 = .ok (.ishr, 1) := by decide +kernel
theorem dL_act_609 : decode cL_act 609 = .ok (.iload_n 2, 1) := by decide +kernel
theorem dL_act_610 : decode cL_act 610 = .ok (.bipush 9, 2) := by decide +kernel
theorem dL_act_612 : decode cL_act 612 = .ok (.ishr, 1) := by decide +kernel
theorem dL_act_613 : decode cL_act 613 = .ok (.iconst 2, 1) := by decide +kernel
theorem dL_act_614 : decode cL_act 614 = .ok (.invokestatic 15, 3) := by decide +kernel
theorem dL_act_617 : decode cL_act 617 = .ok (.ifCond .ne 7, 3) := by decide +kernel
theorem dL_act_620 : decode cL_act 620 = .ok (.iload_n 3, 1) := by decide +kernel
theorem dL_act_621 : decode cL_act 621 = .ok (.goto 7, 3) := by decide +kernel
theorem dL_act_624 : decode cL_act 624 = .ok (.iload 4, 2) := by decide +kernel
theorem dL_act_626 : decode cL_act 626 = .ok (.iconst 1, 1) := by decide +kernel
theorem dL_act_627 : decode cL_act 627 = .ok (.iadd, 1) := by decide +kernel
theorem dL_act_628 : decode cL_act 628 = .ok (.invokestatic 15, 3) := by decide +kernel
theorem dL_act_631 : decode cL_act 631 = .ok (.goto 14, 3) := by decide +kernel
theorem dL_act_634 : decode cL_act 634 = .ok (.iconst 1, 1) := by decide +kernel
theorem dL_act_635 : decode cL_act 635 = .ok (.iload_n 2, 1) := by decide +kernel
theorem dL_act_636 : decode cL_act 636 = .ok (.bipush 7, 2) := by decide +kernel
theorem dL_act_638 : decode cL_act 638 = .ok (.ishr, 1) := by decide +kernel
theorem dL_act_639 : decode cL_act 639 = .ok (.bipush 9, 2) := by decide +kernel
theorem dL_act_641 : decode cL_act 641 = .ok (.invokestatic 15, 3) := by decide +kernel
theorem dL_act_644 : decode cL_act 644 = .ok (.iadd, 1) := by decide +kernel
theorem dL_act_645 : decode cL_act 645 = .ok (.istore 10, 2) := by decide +kernel
theorem dL_act_647 : decode cL_act 647 = .ok (.aload_n 1, 1) := by decide +kernel
theorem dL_act_648 : decode cL_act 648 = .ok (.getfield 9, 3) := by decide +kernel
theorem dL_act_651 : decode cL_act 651 = .ok (.iload 4, 2) := by decide +kernel
theorem dL_act_653 : decode cL_act 653 = .ok (.aaload, 1) := by decide +kernel
theorem dL_act_654 : decode cL_act 654 = .ok (.iload 8, 2) := by decide +kernel
theorem dL_act_656 : decode cL_act 656 = .ok (.aaload, 1) := by decide +kernel
theorem dL_act_657 : decode cL_act 657 = .ok (.arraylength, 1) := by decide +kernel
theorem dL_act_658 : decode cL_act 658 = .ok (.iconst 5, 1) := by decide +kernel
theorem dL_act_659 : decode cL_act 659 = .ok (.if_icmp .ge 19, 3) := by decide +kernel
theorem dL_act_662 : decode cL_act 662 = .ok (.aload_n 1, 1) := by decide +kernel
theorem dL_act_663 : decode cL_act 663 = .ok (.getfield 9, 3) := by decide +kernel
theorem dL_act_666 : decode cL_act 666 = .ok (.iload 4, 2) := by decide +kernel
theorem dL_act_668 : decode cL_act 668 = .ok (.aaload, 1) := by decide +kernel
theorem dL_act_669 : decode cL_act 669 = .ok (.iload 8, 2) := by decide +kernel
theorem dL_act_671 : decode cL_act 671 = .ok (.aaload, 1) := by decide +kernel
theorem dL_act_672 : decode cL_act 672 = .ok (.arraylength, 1) := by decide +kernel
theorem dL_act_673 : decode cL_act 673 = .ok (.iconst 1, 1) := by decide +kernel
theorem dL_act_674 : decode cL_act 674 = .ok (.iadd, 1) := by decide +kernel
theorem dL_act_675 : decode cL_act 675 = .ok (.goto 4, 3) := by decide +kernel
theorem dL_act_678 : decode cL_act 678 = .ok (.iconst (-1), 1) := by decide +kernel
theorem dL_act_679 : decode cL_act 679 = .ok (.istore 7, 2) := by decide +kernel
theorem dL_act_681 : decode cL_act 681 = .ok (.iload 7, 2) := by decide +kernel
theorem dL_act_683 : decode cL_act 683 = .ok (.ifCond .lt 58, 3) := by decide +kernel
theorem dL_act_686 : decode cL_act 686 = .ok (.aload_n 1, 1) := by decide +kernel
theorem dL_act_687 : decode cL_act 687 = .ok (.getfield 9, 3) := by decide +kernel
theorem dL_act_690 : decode cL_act 690 = .ok (.iload 4, 2) := by decide +kernel
theorem dL_act_692 : decode cL_act 692 = .ok (.aaload, 1) := by decide +kernel
theorem dL_act_693 : decode cL_act 693 = .ok (.iload 8, 2) := by decide +kernel
theorem dL_act_695 : decode cL_act 695 = .ok (.aload_n 1, 1) := by decide +kernel
theorem dL_act_696 : decode cL_act 696 = .ok (.getfield 9, 3) := by decide +kernel
theorem dL_act_699 : decode cL_act 699 = .ok (.iload 4, 2) := by decide +kernel
theorem dL_act_701 : decode cL_act 701 = .ok (.aaload, 1) := by decide +kernel
theorem dL_act_702 : decode cL_act 702 = .ok (.iload 8, 2) := by decide +kernel
theorem dL_act_704 : decode cL_act 704 = .ok (.aaload, 1) := by decide +kernel
theorem dL_act_705 : decode cL_act 705 = .ok (.iconst 4, 1) := by decide +kernel
theorem dL_act_706 : decode cL_act 706 = .ok (.newarray .int, 2) := by decide +kernel
theorem dL_act_708 : decode cL_act 708 = .ok (.dup, 1) := by decide +kernel
theorem dL_act_709 : decode cL_act 709 = .ok (.iconst 0, 1) := by decide +kernel
theorem dL_act_710 : decode cL_act 710 = .ok (.iload 9, 2) := by decide +kernel
theorem dL_act_712 : decode cL_act 712 = .ok (.iastore, 1) := by decide +kernel
theorem dL_act_713 : decode cL_act 713 = .ok (.dup, 1) := by decide +kernel
theorem dL_act_714 : decode cL_act 714 = .ok (.iconst 1, 1) := by decide +kernel
theorem dL_act_715 : decode cL_act 715 = .ok (.iload 10, 2) := by decide +kernel
theorem dL_act_717 : decode cL_act 717 = .ok (.iastore, 1) := by decide +kernel
theorem dL_act_718 : decode cL_act 718 = .ok (.dup, 1) := by decide +kernel
theorem dL_act_719 : decode cL_act 719 = .ok (.iconst 2, 1) := by decide +kernel
theorem dL_act_720 : decode cL_act 720 = .ok (.iload 9, 2) := by decide +kernel
theorem dL_act_722 : decode cL_act 722 = .ok (.iconst 2, 1) := by decide +kernel
theorem dL_act_723 : decode cL_act 723 = .ok (.if_icmp .ne 8, 3) := by decide +kernel
theorem dL_act_726 : decode cL_act 726 = .ok (.iload 10, 2) := by decide +kernel
theorem dL_act_728 : decode cL_act 728 = .ok (.goto 4, 3) := by decide +kernel
theorem dL_act_731 : decode cL_act 731 = .ok (.iconst 0, 1) := by decide +kernel
theorem dL_act_732 : decode cL_act 732 = .ok (.iastore, 1) := by decide +kernel
theorem dL_act_733 : decode cL_act 733 = .ok (.dup, 1) := by decide +kernel
theorem dL_act_734 : decode cL_act 734 = .ok (.iconst 3, 1) := by decide +kernel
theorem dL_act_735 : decode cL_act 735 = .ok (.iconst 0, 1) := by decide +kernel
theorem dL_act_736 : decode cL_act 736 = .ok (.iastore, 1) := by decide +kernel
theorem dL_act_737 : decode cL_act 737 = .ok (.invokestatic 65, 3) := by decide +kernel
theorem dL_act_740 : decode cL_act 740 = .ok (.aastore, 1) := by decide +kernel
theorem dL_act_741 : decode cL_act 741 = .ok (.aload_n 0, 1) := by decide +kernel
theorem dL_act_742 : decode cL_act 742 = .ok (.iload 4, 2) := by decide +kernel
theorem dL_act_744 : decode cL_act 744 = .ok (.iload 8, 2) := by decide +kernel
theorem dL_act_746 : decode cL_act 746 = .ok (.iload 9, 2) := by decide +kernel
theorem dL_act_748 : decode cL_act 748 = .ok (.iload 10, 2) := by decide +kernel
theorem dL_act_750 : decode cL_act 750 = .ok (.invokevirtual 69, 3) := by decide +kernel
theorem dL_act_753 : decode cL_act 753 = .ok (.istore 6, 2) := by decide +kernel
theorem dL_act_755 : decode cL_act 755 = .ok (.goto 8, 3) := by decide +kernel
theorem dL_act_758 : decode cL_act 758 = .ok (.astore 11, 2) := by decide +kernel
theorem dL_act_760 : decode cL_act 760 = .ok (.iconst (-1), 1) := by decide +kernel
theorem dL_act_761 : decode cL_act 761 = .ok (.istore 6, 2) := by decide +kernel
theorem dL_act_763 : decode cL_act 763 = .ok (.iload 6, 2) := by decide +kernel
theorem dL_act_765 : decode cL_act 765 = .ok (.iload 7, 2) := by decide +kernel
theorem dL_act_767 : decode cL_act 767 = .ok (.if_icmp .ne 7, 3) := by decide +kernel
theorem dL_act_770 : decode cL_act 770 = .ok (.iconst 1, 1) := by decide +kernel
theorem dL_act_771 : decode cL_act 771 = .ok (.goto 4, 3) := by decide +kernel
theorem dL_act_774 : decode cL_act 774 = .ok (.iconst 0, 1) := by decide +kernel
theorem dL_act_775 : decode cL_act 775 = .ok (.ireturn, 1) := by decide +kernel
theorem dL_build_0 : decode cL_build 0 = .ok (.new 10, 3) := by decide +kernel
theorem dL_build_3 : decode cL_build 3 = .ok (.dup, 1) := by decide +kernel
theorem dL_build_4 : decode cL_build 4 = .ok (.invokespecial 72, 3) := by decide +kernel
theorem dL_build_7 : decode cL_build 7 = .ok (.astore_n 2, 1) := by decide +kernel
theorem dL_build_8 : decode cL_build 8 = .ok (.iconst 1, 1) := by decide +kernel
theorem dL_build_9 : decode cL_build 9 = .ok (.aload_n 1, 1) := by decide +kernel
theorem dL_build_10 : decode cL_build 10 = .ok (.iconst 0, 1) := by decide +kernel
theorem dL_build_11 : decode cL_build 11 = .ok (.invokestatic 73, 3) := by decide +kernel
theorem dL_build_14 : decode cL_build 14 = .ok (.bipush 12, 2) := by decide +kernel
theorem dL_build_16 : decode cL_build 16 = .ok (.invokestatic 15, 3) := by decide +kernel
theorem dL_build_19 : decode cL_build 19 = .ok (.iadd, 1) := by decide +kernel
theorem dL_build_20 : decode cL_build 20 = .ok (.istore_n 3, 1) := by decide +kernel
theorem dL_build_21 : decode cL_build 21 = .ok (.iconst 0, 1) := by decide +kernel
theorem dL_build_22 : decode cL_build 22 = .ok (.istore 4, 2) := by decide +kernel
theorem dL_build_24 : decode cL_build 24 = .ok (.iload 4, 2) := by decide +kernel
theorem dL_build_26 : decode cL_build 26 = .ok (.iload_n 3, 1) := by decide +kernel
theorem dL_build_27 : decode cL_build 27 = .ok (.if_icmp .ge 284, 3) := by decide +kernel
theorem dL_build_30 : decode cL_build 30 = .ok (.aload_n 1, 1) := by decide +kernel
theorem dL_build_31 : decode cL_build 31 = .ok (.iconst 1, 1) := by decide +kernel
theorem dL_build_32 : decode cL_build 32 = .ok (.iload 4, 2) := by decide +kernel
theorem dL_build_34 : decode cL_build 34 = .ok (.iadd, 1) := by decide +kernel
theorem dL_build_35 : decode cL_build 35 = .ok (.invokestatic 73, 3) := by decide +kernel
theorem dL_build_38 : decode cL_build 38 = .ok (.iconst 2, 1) := by decide +kernel
theorem dL_build_39 : decode cL_build 39 = .ok (.ishr, 1) := by decide +kernel
theorem dL_build_40 : decode cL_build 40 = .ok (.bipush 13, 2) := by decide +kernel
theorem dL_build_42 : decode cL_build 42 = .ok (.iload 4, 2) := by decide +kernel
theorem dL_build_44 : decode cL_build 44 = .ok (.imul, 1) := by decide +kernel
theorem dL_build_45 : decode cL_build 45 = .ok (.iadd, 1) := by decide +kernel
theorem dL_build_46 : decode cL_build 46 = .ok (.istore 5, 2) := by decide +kernel
theorem dL_build_48 : decode cL_build 48 = .ok (.aload_n 2, 1) := by decide +kernel
theorem dL_build_49 : decode cL_build 49 = .ok (.invokevirtual 31, 3) := by decide +kernel
theorem dL_build_52 : decode cL_build 52 = .ok (.aload_n 0, 1) := by decide +kernel
theorem dL_build_53 : decode cL_build 53 = .ok (.invokevirtual 34, 3) := by decide +kernel
theorem dL_build_56 : decode cL_build 56 = .ok (.iload 4, 2) := by decide +kernel
theorem dL_build_58 : decode cL_build 58 = .ok (.if_icmp .eq 5, 3) := by decide +kernel
theorem dL_build_61 : decode cL_build 61 = .ok (.aconst_null, 1) := by decide +kernel
theorem dL_build_62 : decode cL_build 62 = .ok (.areturn, 1) := by decide +kernel
theorem dL_build_63 : decode cL_build 63 = .ok (.iconst 0, 1) := by decide +kernel
theorem dL_build_64 : decode cL_build 64 = .ok (.istore 6, 2) := by decide +kernel
theorem dL_build_66 : decode cL_build 66 = .ok (.iload 6, 2) := by decide +kernel
theorem dL_build_68 : decode cL_build 68 = .ok (.iload 5, 2) := by decide +kernel
theorem dL_build_70 : decode cL_build 70 = .ok (.iconst 4, 1) := by decide +kernel
theorem dL_build_71 : decode cL_build 71 = .ok (.invokestatic 15, 3) := by decide +kernel
theorem dL_build_74 : decode cL_build 74 = .ok (.if_icmp .ge 231, 3) := by decide +kernel
theorem dL_build_77 : decode cL_build 77 = .ok (.aload_n 2, 1) := by decide +kernel
theorem dL_build_78 : decode cL_build 78 = .ok (.iload 4, 2) := by decide +kernel
theorem dL_build_80 : decode cL_build 80 = .ok (.invokevirtual 39, 3) := by decide +kernel
theorem dL_build_83 : decode cL_build 83 = .ok (.aload_n 0, 1) := by decide +kernel
theorem dL_build_84 : decode cL_build 84 = .ok (.iload 4, 2) := by decide +kernel
theorem dL_build_86 : decode cL_build 86 = .ok (.invokevirtual 43, 3) := by decide +kernel
theorem dL_build_89 : decode cL_build 89 = .ok (.iload 6, 2) := by decide +kernel
theorem dL_build_91 : decode cL_build 91 = .ok (.if_icmp .eq 5, 3) := by decide +kernel
theorem dL_build_94 : decode cL_build 94 = .ok (.aconst_null, 1) := by decide +kernel
theorem dL_build_95 : decode cL_build 95 = .ok (.areturn, 1) := by decide +kernel
theorem dL_build_96 : decode cL_build 96 = .ok (.iconst 0, 1) := by decide +kernel
theorem dL_build_97 : decode cL_build 97 = .ok (.istore 7, 2) := by decide +kernel
theorem dL_build_99 : decode cL_build 99 = .ok (.iload 7, 2) := by decide +kernel
theorem dL_build_101 : decode cL_build 101 = .ok (.iload 5, 2) := by decide +kernel
theorem dL_build_103 : decode cL_build 103 = .ok (.iconst 3, 1) := by decide +kernel
theorem dL_build_104 : decode cL_build 104 = .ok (.ishr, 1) := by decide +kernel
theorem dL_build_105 : decode cL_build 105 = .ok (.iload 6, 2) := by decide +kernel
theorem dL_build_107 : decode cL_build 107 = .ok (.iadd, 1) := by decide +kernel
theorem dL_build_108 : decode cL_build 108 = .ok (.iconst 4, 1) := by decide +kernel
theorem dL_build_109 : decode cL_build 109 = .ok (.invokestatic 15, 3) := by decide +kernel
theorem dL_build_112 : decode cL_build 112 = .ok (.if_icmp .ge 187, 3) := by decide +kernel
theorem dL_build_115 : decode cL_build 115 = .ok (.iload 5, 2) := by decide +kernel
theorem dL_build_117 : decode cL_build 117 = .ok (.iconst 2, 1) := by decide +kernel
theorem dL_build_118 : decode cL_build 118 = .ok (.iload 7, 2) := by decide +kernel
theorem dL_build_120 : decode cL_build 120 = .ok (.imul, 1) := by decide +kernel
theorem dL_build_121 : decode cL_build 121 = .ok (.ishr, 1) := by decide +kernel
theorem dL_build_122 : decode cL_build 122 = .ok (.iconst 5, 1) := by decide +kernel
theorem dL_build_123 : decode cL_build 123 = .ok (.iload 6, 2) := by decide +kernel
theorem dL_build_125 : decode cL_build 125 = .ok (.imul, 1) := by decide +kernel
theorem dL_build_126 : decode cL_build 126 = .ok (.iadd, 1) := by decide +kernel
theorem dL_build_127 : decode cL_build 127 = .ok (.bipush 7, 2) := by decide +kernel
theorem dL_build_129 : decode cL_build 129 = .ok (.iload 7, 2) := by decide +kernel
theorem dL_build_131 : decode cL_build 131 = .ok (.imul, 1) := by decide +kernel
theorem dL_build_132 : decode cL_build 132 = .ok (.iadd, 1) := by decide +kernel
theorem dL_build_133 : decode cL_build 133 = .ok (.istore 8, 2) := by decide +kernel
theorem dL_build_135 : decode cL_build 135 = .ok (.iload 8, 2) := by decide +kernel
theorem dL_build_137 : decode cL_build 137 = .ok (.bipush 6, 2) := by decide +kernel
theorem dL_build_139 : decode cL_build 139 = .ok (.invokestatic 15, 3) := by decide +kernel
theorem dL_build_142 : decode cL_build 142 = .ok (.ifCond .ne 7, 3) := by decide +kernel
theorem dL_build_145 : decode cL_build 145 = .ok (.iconst 2, 1) := by decide +kernel
theorem dL_build_146 : decode cL_build 146 = .ok (.goto 22, 3) := by decide +kernel
theorem dL_build_149 : decode cL_build 149 = .ok (.iload 4, 2) := by decide +kernel
theorem dL_build_151 : decode cL_build 151 = .ok (.ifCond .le 16, 3) := by decide +kernel
theorem dL_build_154 : decode cL_build 154 = .ok (.iload 8, 2) := by decide +kernel
theorem dL_build_156 : decode cL_build 156 = .ok (.iconst 2, 1) := by decide +kernel
theorem dL_build_157 : decode cL_build 157 = .ok (.invokestatic 15, 3) := by decide +kernel
theorem dL_build_160 : decode cL_build 160 = .ok (.ifCond .ne 7, 3) := by decide +kernel
theorem dL_build_163 : decode cL_build 163 = .ok (.iconst 1, 1) := by decide +kernel
theorem dL_build_164 : decode cL_build 164 = .ok (.goto 4, 3) := by decide +kernel
theorem dL_build_167 : decode cL_build 167 = .ok (.iconst 0, 1) := by decide +kernel
theorem dL_build_168 : decode cL_build 168 = .ok (.istore 9, 2) := by decide +kernel
theorem dL_build_170 : decode cL_build 170 = .ok (.iload 9, 2) := by decide +kernel
theorem dL_build_172 : decode cL_build 172 = .ok (.ifCond .ne 14, 3) := by decide +kernel
theorem dL_build_175 : decode cL_build 175 = .ok (.iload 8, 2) := by decide +kernel
theorem dL_build_177 : decode cL_build 177 = .ok (.iconst 2, 1) := by decide +kernel
theorem dL_build_178 : decode cL_build 178 = .ok (.ishr, 1) := by decide +kernel
theorem dL_build_179 : decode cL_build 179 = .ok (.iconst 5, 1) := by decide +kernel
theorem dL_build_180 : decode cL_build 180 = .ok (.invokestatic 15, 3) := by decide +kernel
theorem dL_build_183 : decode cL_build 183 = .ok (.goto 32, 3) := by decide +kernel
theorem dL_build_186 : decode cL_build 186 = .ok (.iload 9, 2) := by decide +kernel
theorem dL_build_188 : decode cL_build 188 = .ok (.iconst 1, 1) := by decide +kernel
theorem dL_build_189 : decode cL_build 189 = .ok (.if_icmp .ne 15, 3) := by decide +kernel
theorem dL_build_192 : decode cL_build 192 = .ok (.iload 8, 2) := by decide +kernel
theorem dL_build_194 : decode cL_build 194 = .ok (.iconst 3, 1) := by decide +kernel
theorem dL_build_195 : decode cL_build 195 = .ok (.ishr, 1) := by decide +kernel
theorem dL_build_196 : decode cL_build 196 = .ok (.iload 4, 2) := by decide +kernel
theorem dL_build_198 : decode cL_build 198 = .ok (.invokestatic 15, 3) := by decide +kernel
theorem dL_build_201 : decode cL_build 201 = .ok (.goto 14, 3) := by decide +kernel
theorem dL_build_204 : decode cL_build 204 = .ok (.iconst 1, 1) := by decide +kernel
theorem dL_build_205 : decode cL_build 205 = .ok (.iload 8, 2) := by decide +kernel
theorem dL_build_207 : decode cL_build 207 = .ok (.iconst 2, 1) := by decide +kernel
theorem dL_build_208 : decode cL_build 208 = .ok (.ishr, 1) := by decide +kernel
theorem dL_build_209 : decode cL_build 209 = .ok (.bipush 9, 2) := by decide +kernel
theorem dL_build_211 : decode cL_build 211 = .ok (.invokestatic 15, 3) := by decide +kernel
theorem dL_build_214 : decode cL_build 214 = .ok (.iadd, 1) := by decide +kernel
theorem dL_build_215 : decode cL_build 215 = .ok (.istore 10, 2) := by decide +kernel
theorem dL_build_217 : decode cL_build 217 = .ok (.aload_n 2, 1) := by decide +kernel
theorem dL_build_218 : decode cL_build 218 = .ok (.getfield 9, 3) := by decide +kernel
theorem dL_build_221 : decode cL_build 221 = .ok (.iload 4, 2) := by decide +kernel
theorem dL_build_223 : decode cL_build 223 = .ok (.aaload, 1) := by decide +kernel
theorem dL_build_224 : decode cL_build 224 = .ok (.iload 6, 2) := by decide +kernel
theorem dL_build_226 : decode cL_build 226 = .ok (.aload_n 2, 1) := by decide +kernel
theorem dL_build_227 : decode cL_build 227 = .ok (.getfield 9, 3) := by decide +kernel
theorem dL_build_230 : decode cL_build 230 = .ok (.iload 4, 2) := by decide +kernel
theorem dL_build_232 : decode cL_build 232 = .ok (.aaload, 1) := by decide +kernel
theorem dL_build_233 : decode cL_build 233 = .ok (.iload 6, 2) := by decide +kernel
theorem dL_build_235 : decode cL_build 235 = .ok (.aaload, 1) := by decide +kernel
theorem dL_build_236 : decode cL_build 236 = .ok (.iconst 4, 1) := by decide +kernel
theorem dL_build_237 : decode cL_build 237 = .ok (.newarray .int, 2) := by decide +kernel
theorem dL_build_239 : decode cL_build 239 = .ok (.dup, 1) := by decide +kernel
theorem dL_build_240 : decode cL_build 240 = .ok (.iconst 0, 1) := by decide +kernel
theorem dL_build_241 : decode cL_build 241 = .ok (.iload 9, 2) := by decide +kernel
theorem dL_build_243 : decode cL_build 243 = .ok (.iastore, 1) := by decide +kernel
theorem dL_build_244 : decode cL_build 244 = .ok (.dup, 1) := by decide +kernel
theorem dL_build_245 : decode cL_build 245 = .ok (.iconst 1, 1) := by decide +kernel
theorem dL_build_246 : decode cL_build 246 = .ok (.iload 10, 2) := by decide +kernel
theorem dL_build_248 : decode cL_build 248 = .ok (.iastore, 1) := by decide +kernel
theorem dL_build_249 : decode cL_build 249 = .ok (.dup, 1) := by decide +kernel
theorem dL_build_250 : decode cL_build 250 = .ok (.iconst 2, 1) := by decide +kernel
theorem dL_build_251 : decode cL_build 251 = .ok (.iload 9, 2) := by decide +kernel
theorem dL_build_253 : decode cL_build 253 = .ok (.iconst 2, 1) := by decide +kernel
theorem dL_build_254 : decode cL_build 254 = .ok (.if_icmp .ne 8, 3) := by decide +kernel
theorem dL_build_257 : decode cL_build 257 = .ok (.iload 10, 2) := by decide +kernel
theorem dL_build_259 : decode cL_build 259 = .ok (.goto 4, 3) := by decide +kernel
theorem dL_build_262 : decode cL_build 262 = .ok (.iconst 0, 1) := by decide +kernel
theorem dL_build_263 : decode cL_build 263 = .ok (.iastore, 1) := by decide +kernel
theorem dL_build_264 : decode cL_build 264 = .ok (.dup, 1) := by decide +kernel
theorem dL_build_265 : decode cL_build 265 = .ok (.iconst 3, 1) := by decide +kernel
theorem dL_build_266 : decode cL_build 266 = .ok (.iconst 0, 1) := by decide +kernel
theorem dL_build_267 : decode cL_build 267 = .ok (.iastore, 1) := by decide +kernel
theorem dL_build_268 : decode cL_build 268 = .ok (.invokestatic 65, 3) := by decide +kernel
theorem dL_build_271 : decode cL_build 271 = .ok (.aastore, 1) := by decide +kernel
theorem dL_build_272 : decode cL_build 272 = .ok (.aload_n 0, 1) := by decide +kernel
theorem dL_build_273 : decode cL_build 273 = .ok (.iload 4, 2) := by decide +kernel
theorem dL_build_275 : decode cL_build 275 = .ok (.iload 6, 2) := by decide +kernel
theorem dL_build_277 : decode cL_build 277 = .ok (.iload 9, 2) := by decide +kernel
theorem dL_build_279 : decode cL_build 279 = .ok (.iload 10, 2) := by decide +kernel
theorem dL_build_281 : decode cL_build 281 = .ok (.invokevirtual 69, 3) := by decide +kernel
theorem dL_build_284 : decode cL_build 284 = .ok (.iload 7, 2) := by decide +kernel
theorem dL_build_286 : decode cL_build 286 = .ok (.iconst 1, 1) := by decide +kernel
theorem dL_build_287 : decode cL_build 287 = .ok (.iadd, 1) := by decide +kernel
theorem dL_build_288 : decode cL_build 288 = .ok (.if_icmp .eq 5, 3) := by decide +kernel
theorem dL_build_291 : decode cL_build 291 = .ok (.aconst_null, 1) := by decide +kernel
theorem dL_build_292 : decode cL_build 292 = .ok (.areturn, 1) := by decide +kernel
theorem dL_build_293 : decode cL_build 293 = .ok (.iinc 7 1, 3) := by decide +kernel
theorem dL_build_296 : decode cL_build 296 = .ok (.goto (-197), 3) := by decide +kernel
theorem dL_build_299 : decode cL_build 299 = .ok (.iinc 6 1, 3) := by decide +kernel
theorem dL_build_302 : decode cL_build 302 = .ok (.goto (-236), 3) := by decide +kernel
theorem dL_build_305 : decode cL_build 305 = .ok (.iinc 4 1, 3) := by decide +kernel
theorem dL_build_308 : decode cL_build 308 = .ok (.goto (-284), 3) := by decide +kernel
theorem dL_build_311 : decode cL_build 311 = .ok (.aload_n 2, 1) := by decide +kernel
theorem dL_build_312 : decode cL_build 312 = .ok (.areturn, 1) := by decide +kernel
theorem dL_law_0 : decode cL_law 0 = .ok (.new 26, 3) := by decide +kernel
theorem dL_law_3 : decode cL_law 3 = .ok (.dup, 1) := by decide +kernel
theorem dL_law_4 : decode cL_law 4 = .ok (.invokespecial 77, 3) := by decide +kernel
theorem dL_law_7 : decode cL_law 7 = .ok (.astore_n 1, 1) := by decide +kernel
theorem dL_law_8 : decode cL_law 8 = .ok (.aload_n 1, 1) := by decide +kernel
theorem dL_law_9 : decode cL_law 9 = .ok (.aload_n 0, 1) := by decide +kernel
theorem dL_law_10 : decode cL_law 10 = .ok (.invokestatic 78, 3) := by decide +kernel
theorem dL_law_13 : decode cL_law 13 = .ok (.astore_n 2, 1) := by decide +kernel
theorem dL_law_14 : decode cL_law 14 = .ok (.aload_n 2, 1) := by decide +kernel
theorem dL_law_15 : decode cL_law 15 = .ok (.ifnonnull 5, 3) := by decide +kernel
theorem dL_law_18 : decode cL_law 18 = .ok (.iconst 0, 1) := by decide +kernel
theorem dL_law_19 : decode cL_law 19 = .ok (.ireturn, 1) := by decide +kernel
theorem dL_law_20 : decode cL_law 20 = .ok (.iconst 0, 1) := by decide +kernel
theorem dL_law_21 : decode cL_law 21 = .ok (.istore_n 3, 1) := by decide +kernel
theorem dL_law_22 : decode cL_law 22 = .ok (.iload_n 3, 1) := by decide +kernel
theorem dL_law_23 : decode cL_law 23 = .ok (.bipush 10, 2) := by decide +kernel
theorem dL_law_25 : decode cL_law 25 = .ok (.if_icmp .ge 1037, 3) := by decide +kernel
theorem dL_law_28 : decode cL_law 28 = .ok (.aload_n 0, 1) := by decide +kernel
theorem dL_law_29 : decode cL_law 29 = .ok (.iload_n 3, 1) := by decide +kernel
theorem dL_law_30 : decode cL_law 30 = .ok (.invokestatic 73, 3) := by decide +kernel
theorem dL_law_33 : decode cL_law 33 = .ok (.iconst 2, 1) := by decide +kernel
theorem dL_law_34 : decode cL_law 34 = .ok (.ishr, 1) := by decide +kernel
theorem dL_law_35 : decode cL_law 35 = .ok (.bipush 53, 2) := by decide +kernel
theorem dL_law_37 : decode cL_law 37 = .ok (.iload_n 3, 1) := by decide +kernel
theorem dL_law_38 : decode cL_law 38 = .ok (.imul, 1) := by decide +kernel
theorem dL_law_39 : decode cL_law 39 = .ok (.iadd, 1) := by decide +kernel
theorem dL_law_40 : decode cL_law 40 = .ok (.istore 4, 2) := by decide +kernel
theorem dL_law_42 : decode cL_law 42 = .ok (.iconst 0, 1) := by decide +kernel
theorem dL_law_43 : decode cL_law 43 = .ok (.istore 5, 2) := by decide +kernel
theorem dL_law_45 : decode cL_law 45 = .ok (.iload 5, 2) := by decide +kernel
theorem dL_law_47 : decode cL_law 47 = .ok (.iconst 4, 1) := by decide +kernel
theorem dL_law_48 : decode cL_law 48 = .ok (.if_icmp .ge 32, 3) := by decide +kernel
theorem dL_law_51 : decode cL_law 51 = .ok (.aload_n 1, 1) := by decide +kernel
theorem dL_law_52 : decode cL_law 52 = .ok (.aload_n 2, 1) := by decide +kernel
theorem dL_law_53 : decode cL_law 53 = .ok (.iload 4, 2) := by decide +kernel
theorem dL_law_55 : decode cL_law 55 = .ok (.iconst 3, 1) := by decide +kernel
theorem dL_law_56 : decode cL_law 56 = .ok (.iload 5, 2) := by decide +kernel
theorem dL_law_58 : decode cL_law 58 = .ok (.imul, 1) := by decide +kernel
theorem dL_law_59 : decode cL_law 59 = .ok (.ishr, 1) := by decide +kernel
theorem dL_law_60 : decode cL_law 60 = .ok (.bipush 29, 2) := by decide +kernel
theorem dL_law_62 : decode cL_law 62 = .ok (.iload 5, 2) := by decide +kernel
theorem dL_law_64 : decode cL_law 64 = .ok (.imul, 1) := by decide +kernel
theorem dL_law_65 : decode cL_law 65 = .ok (.iadd, 1) := by decide +kernel
theorem dL_law_66 : decode cL_law 66 = .ok (.invokestatic 82, 3) := by decide +kernel
theorem dL_law_69 : decode cL_law 69 = .ok (.ifCond .ne 5, 3) := by decide +kernel
theorem dL_law_72 : decode cL_law 72 = .ok (.iconst 0, 1) := by decide +kernel
theorem dL_law_73 : decode cL_law 73 = .ok (.ireturn, 1) := by decide +kernel
theorem dL_law_74 : decode cL_law 74 = .ok (.iinc 5 1, 3) := by decide +kernel
theorem dL_law_77 : decode cL_law 77 = .ok (.goto (-32), 3) := by decide +kernel
theorem dL_law_80 : decode cL_law 80 = .ok (.aload_n 1, 1) := by decide +kernel
theorem dL_law_81 : decode cL_law 81 = .ok (.invokevirtual 86, 3) := by decide +kernel
theorem dL_law_84 : decode cL_law 84 = .ok (.lstore 5, 2) := by decide +kernel
theorem dL_law_86 : decode cL_law 86 = .ok (.aload_n 1, 1) := by decide +kernel
theorem dL_law_87 : decode cL_law 87 = .ok (.iconst 0, 1) := by decide +kernel
theorem dL_law_88 : decode cL_law 88 = .ok (.invokevirtual 90, 3) := by decide +kernel
theorem dL_law_91 : decode cL_law 91 = .ok (.istore 7, 2) := by decide +kernel
theorem dL_law_93 : decode cL_law 93 = .ok (.aload_n 1, 1) := by decide +kernel
theorem dL_law_94 : decode cL_law 94 = .ok (.iconst 1, 1) := by decide +kernel
theorem dL_law_95 : decode cL_law 95 = .ok (.invokevirtual 90, 3) := by decide +kernel
theorem dL_law_98 : decode cL_law 98 = .ok (.istore 8, 2) := by decide +kernel
theorem dL_law_100 : decode cL_law 100 = .ok (.iload 7, 2) := by decide +kernel
theorem dL_law_102 : decode cL_law 102 = .ok (.iconst 2, 1) := by decide +kernel
theorem dL_law_103 : decode cL_law 103 = .ok (.iadd, 1) := by decide +kernel
theorem dL_law_104 : decode cL_law 104 = .ok (.newarray .int, 2) := by decide +kernel
theorem dL_law_106 : decode cL_law 106 = .ok (.astore 9, 2) := by decide +kernel
theorem dL_law_108 : decode cL_law 108 = .ok (.iconst 0, 1) := by decide +kernel
theorem dL_law_109 : decode cL_law 109 = .ok (.istore 10, 2) := by decide +kernel
theorem dL_law_111 : decode cL_law 111 = .ok (.iconst 0, 1) := by decide +kernel
theorem dL_law_112 : decode cL_law 112 = .ok (.istore 11, 2) := by decide +kernel
theorem dL_law_114 : decode cL_law 114 = .ok (.iload 11, 2) := by decide +kernel
theorem dL_law_116 : decode cL_law 116 = .ok (.iload 7, 2) := by decide +kernel
theorem dL_law_118 : decode cL_law 118 = .ok (.if_icmp .ge 502, 3) := by decide +kernel
theorem dL_law_121 : decode cL_law 121 = .ok (.aload_n 1, 1) := by decide +kernel
theorem dL_law_122 : decode cL_law 122 = .ok (.iload 11, 2) := by decide +kernel
theorem dL_law_124 : decode cL_law 124 = .ok (.iconst 2, 1) := by decide +kernel
theorem dL_law_125 : decode cL_law 125 = .ok (.invokevirtual 93, 3) := by decide +kernel
theorem dL_law_128 : decode cL_law 128 = .ok (.istore 12, 2) := by decide +kernel
theorem dL_law_130 : decode cL_law 130 = .ok (.iload 12, 2) := by decide +kernel
theorem dL_law_132 : decode cL_law 132 = .ok (.ifCond .lt 10, 3) := by decide +kernel
theorem dL_law_135 : decode cL_law 135 = .ok (.iload 12, 2) := by decide +kernel
theorem dL_law_137 : decode cL_law 137 = .ok (.iload 7, 2) := by decide +kernel
theorem dL_law_139 : decode cL_law 139 = .ok (.if_icmp .le 5, 3) := by decide +kernel
theorem dL_law_142 : decode cL_law 142 = .ok (.iconst 0, 1) := by decide +kernel
theorem dL_law_143 : decode cL_law 143 = .ok (.ireturn, 1) := by decide +kernel
theorem dL_law_144 : decode cL_law 144 = .ok (.aload 9, 2) := by decide +kernel
theorem dL_law_146 : decode cL_law 146 = .ok (.iload 12, 2) := by decide +kernel
theorem dL_law_148 : decode cL_law 148 = .ok (.dup2, 1) := by decide +kernel
theorem dL_law_149 : decode cL_law 149 = .ok (.iaload, 1) := by decide +kernel
theorem dL_law_150 : decode cL_law 150 = .ok (.iconst 1, 1) := by decide +kernel
theorem dL_law_151 : decode cL_law 151 = .ok (.iadd, 1) := by decide +kernel
theorem dL_law_152 : decode cL_law 152 = .ok (.iastore, 1) := by decide +kernel
theorem dL_law_153 : decode cL_law 153 = .ok (.iload 10, 2) := by decide +kernel
theorem dL_law_155 : decode cL_law 155 = .ok (.iload 12, 2) := by decide +kernel
theorem dL_law_157 : decode cL_law 157 = .ok (.ifCond .le 7, 3) := by decide +kernel
theorem dL_law_160 : decode cL_law 160 = .ok (.iconst 1, 1) := by decide +kernel
theorem dL_law_161 : decode cL_law 161 = .ok (.goto 4, 3) := by decide +kernel
theorem dL_law_164 : decode cL_law 164 = .ok (.iconst 0, 1) := by decide +kernel
theorem dL_law_165 : decode cL_law 165 = .ok (.iadd, 1) := by decide +kernel
theorem dL_law_166 : decode cL_law 166 = .ok (.istore 10, 2) := by decide +kernel
theorem dL_law_168 : decode cL_law 168 = .ok (.aload_n 1, 1) := by decide +kernel
theorem dL_law_169 : decode cL_law 169 = .ok (.iload 11, 2) := by decide +kernel
theorem dL_law_171 : decode cL_law 171 = .ok (.invokevirtual 96, 3) := by decide +kernel
theorem dL_law_174 : decode cL_law 174 = .ok (.istore 13, 2) := by decide +kernel
theorem dL_law_176 : decode cL_law 176 = .ok (.iconst 0, 1) := by decide +kernel
theorem dL_law_177 : decode cL_law 177 = .ok (.istore 14, 2) := by decide +kernel
theorem dL_law_179 : decode cL_law 179 = .ok (.iconst 0, 1) := by decide +kernel
theorem dL_law_180 : decode cL_law 180 = .ok (.istore 15, 2) := by decide +kernel
theorem dL_law_182 : decode cL_law 182 = .ok (.iconst (-1), 1) := by decide +kernel
theorem dL_law_183 : decode cL_law 183 = .ok (.istore 16, 2) := by decide +kernel
theorem dL_law_185 : decode cL_law 185 = .ok (.iconst 0, 1) := by decide +kernel
theorem dL_law_186 : decode cL_law 186 = .ok (.istore 17, 2) := by decide +kernel
theorem dL_law_188 : decode cL_law 188 = .ok (.iload 17, 2) := by decide +kernel
theorem dL_law_190 : decode cL_law 190 = .ok (.aload_n 1, 1) := by decide +kernel
theorem dL_law_191 : decode cL_law 191 = .ok (.iload 11, 2) := by decide +kernel
theorem dL_law_193 : decode cL_law 193 = .ok (.iconst 0, 1) := by decide +kernel
theorem dL_law_194 : decode cL_law 194 = .ok (.invokevirtual 93, 3) := by decide +kernel
theorem dL_law_197 : decode cL_law 197 = .ok (.if_icmp .ge 184, 3) := by decide +kernel
theorem dL_law_200 : decode cL_law 200 = .ok (.aload_n 1, 1) := by decide +kernel
theorem dL_law_201 : decode cL_law 201 = .ok (.iload 11, 2) := by decide +kernel
theorem dL_law_203 : decode cL_law 203 = .ok (.iload 17, 2) := by decide +kernel
theorem dL_law_205 : decode cL_law 205 = .ok (.iconst 1, 1) := by decide +kernel
theorem dL_law_206 : decode cL_law 206 = .ok (.invokevirtual 99, 3) := by decide +kernel
theorem dL_law_209 : decode cL_law 209 = .ok (.iconst 1, 1) := by decide +kernel
theorem dL_law_210 : decode cL_law 210 = .ok (.if_icmp .ne 7, 3) := by decide +kernel
theorem dL_law_213 : decode cL_law 213 = .ok (.iconst 1, 1) := by decide +kernel
theorem dL_law_214 : decode cL_law 214 = .ok (.goto 4, 3) := by decide +kernel
theorem dL_law_217 : decode cL_law 217 = .ok (.iconst 0, 1) := by decide +kernel
theorem dL_law_218 : decode cL_law 218 = .ok (.istore 18, 2) := by decide +kernel
theorem dL_law_220 : decode cL_law 220 = .ok (.iload 14, 2) := by decide +kernel
theorem dL_law_222 : decode cL_law 222 = .ok (.iload 18, 2) := by decide +kernel
theorem dL_law_224 : decode cL_law 224 = .ok (.ior, 1) := by decide +kernel
theorem dL_law_225 : decode cL_law 225 = .ok (.istore 14, 2) := by decide +kernel
theorem dL_law_227 : decode cL_law 227 = .ok (.iconst 1, 1) := by decide +kernel
theorem dL_law_228 : decode cL_law 228 = .ok (.istore 19, 2) := by decide +kernel
theorem dL_law_230 : decode cL_law 230 = .ok (.iconst 0, 1) := by decide +kernel
theorem dL_law_231 : decode cL_law 231 = .ok (.istore 20, 2) := by decide +kernel
theorem dL_law_233 : decode cL_law 233 = .ok (.iload 20, 2) := by decide +kernel
theorem dL_law_235 : decode cL_law 235 = .ok (.aload_n 1, 1) := by decide +kernel
theorem dL_law_236 : decode cL_law 236 = .ok (.iload 11, 2) := by decide +kernel
theorem dL_law_238 : decode cL_law 238 = .ok (.iload 17, 2) := by decide +kernel
theorem dL_law_240 : decode cL_law 240 = .ok (.iconst 0, 1) := by decide +kernel
theorem dL_law_241 : decode cL_law 241 = .ok (.invokevirtual 99, 3) := by decide +kernel
theorem dL_law_244 : decode cL_law 244 = .ok (.if_icmp .ge 34, 3) := by decide +kernel
theorem dL_law_247 : decode cL_law 247 = .ok (.iload 19, 2) := by decide +kernel
theorem dL_law_249 : decode cL_law 249 = .ok (.aload_n 1, 1) := by decide +kernel
theorem dL_law_250 : decode cL_law 250 = .ok (.iload 11, 2) := by decide +kernel
theorem dL_law_252 : decode cL_law 252 = .ok (.iload 17, 2) := by decide +kernel
theorem dL_law_254 : decode cL_law 254 = .ok (.iload 20, 2) := by decide +kernel
theorem dL_law_256 : decode cL_law 256 = .ok (.iconst 0, 1) := by decide +kernel
theorem dL_law_257 : decode cL_law 257 = .ok (.invokevirtual 103, 3) := by decide +kernel
theorem dL_law_260 : decode cL_law 260 = .ok (.iconst 1, 1) := by decide +kernel
theorem dL_law_261 : decode cL_law 261 = .ok (.if_icmp .eq 7, 3) := by decide +kernel
theorem dL_law_264 : decode cL_law 264 = .ok (.iconst 1, 1) := by decide +kernel
theorem dL_law_265 : decode cL_law 265 = .ok (.goto 4, 3) := by decide +kernel
theorem dL_law_268 : decode cL_law 268 = .ok (.iconst 0, 1) := by decide +kernel
theorem dL_law_269 : decode cL_law 269 = .ok (.iand, 1) := by decide +kernel
theorem dL_law_270 : decode cL_law 270 = .ok (.istore 19, 2) := by decide +kernel
theorem dL_law_272 : decode cL_law 272 = .ok (.iinc 20 1, 3) := by decide +kernel
theorem dL_law_275 : decode cL_law 275 = .ok (.goto (-42), 3) := by decide +kernel
theorem dL_law_278 : decode cL_law 278 = .ok (.iload 15, 2) := by decide +kernel
theorem dL_law_280 : decode cL_law 280 = .ok (.iload 18, 2) := by decide +kernel
theorem dL_law_282 : decode cL_law 282 = .ok (.ifCond .eq 12, 3) := by decide +kernel
theorem dL_law_285 : decode cL_law 285 = .ok (.iload 19, 2) := by decide +kernel
theorem dL_law_287 : decode cL_law 287 = .ok (.ifCond .eq 7, 3) := by decide +kernel
theorem dL_law_290 : decode cL_law 290 = .ok (.iconst 1, 1) := by decide +kernel
theorem dL_law_291 : decode cL_law 291 = .ok (.goto 4, 3) := by decide +kernel
theorem dL_law_294 : decode cL_law 294 = .ok (.iconst 0, 1) := by decide +kernel
theorem dL_law_295 : decode cL_law 295 = .ok (.ior, 1) := by decide +kernel
theorem dL_law_296 : decode cL_law 296 = .ok (.istore 15, 2) := by decide +kernel
theorem dL_law_298 : decode cL_law 298 = .ok (.aload_n 1, 1) := by decide +kernel
theorem dL_law_299 : decode cL_law 299 = .ok (.iload 11, 2) := by decide +kernel
theorem dL_law_301 : decode cL_law 301 = .ok (.iload 17, 2) := by decide +kernel
theorem dL_law_303 : decode cL_law 303 = .ok (.iconst 2, 1) := by decide +kernel
theorem dL_law_304 : decode cL_law 304 = .ok (.invokevirtual 99, 3) := by decide +kernel
theorem dL_law_307 : decode cL_law 307 = .ok (.istore 20, 2) := by decide +kernel
theorem dL_law_309 : decode cL_law 309 = .ok (.iload 20, 2) := by decide +kernel
theorem dL_law_311 : decode cL_law 311 = .ok (.ifCond .lt 24, 3) := by decide +kernel
theorem dL_law_314 : decode cL_law 314 = .ok (.iload 18, 2) := by decide +kernel
theorem dL_law_316 : decode cL_law 316 = .ok (.ifCond .eq 17, 3) := by decide +kernel
theorem dL_law_319 : decode cL_law 319 = .ok (.iload 20, 2) := by decide +kernel
theorem dL_law_321 : decode cL_law 321 = .ok (.aload_n 1, 1) := by decide +kernel
theorem dL_law_322 : decode cL_law 322 = .ok (.iload 11, 2) := by decide +kernel
theorem dL_law_324 : decode cL_law 324 = .ok (.iload 17, 2) := by decide +kernel
theorem dL_law_326 : decode cL_law 326 = .ok (.iconst 0, 1) := by decide +kernel
theorem dL_law_327 : decode cL_law 327 = .ok (.invokevirtual 99, 3) := by decide +kernel
theorem dL_law_330 : decode cL_law 330 = .ok (.if_icmp .ge 5, 3) := by decide +kernel
theorem dL_law_333 : decode cL_law 333 = .ok (.iconst 0, 1) := by decide +kernel
theorem dL_law_334 : decode cL_law 334 = .ok (.ireturn, 1) := by decide +kernel
theorem dL_law_335 : decode cL_law 335 = .ok (.iload 20, 2) := by decide +kernel
theorem dL_law_337 : decode cL_law 337 = .ok (.ifCond .lt 19, 3) := by decide +kernel
theorem dL_law_340 : decode cL_law 340 = .ok (.iload 16, 2) := by decide +kernel
theorem dL_law_342 : decode cL_law 342 = .ok (.ifCond .lt 10, 3) := by decide +kernel
theorem dL_law_345 : decode cL_law 345 = .ok (.iload 20, 2) := by decide +kernel
theorem dL_law_347 : decode cL_law 347 = .ok (.iload 16, 2) := by decide +kernel
theorem dL_law_349 : decode cL_law 349 = .ok (.if_icmp .ge 7, 3) := by decide +kernel
theorem dL_law_352 : decode cL_law 352 = .ok (.iload 20, 2) := by decide +kernel
theorem dL_law_354 : decode cL_law 354 = .ok (.istore 16, 2) := by decide +kernel
theorem dL_law_356 : decode cL_law 356 = .ok (.iload 18, 2) := by decide +kernel
theorem dL_law_358 : decode cL_law 358 = .ok (.ifCond .eq 17, 3) := by decide +kernel
theorem dL_law_361 : decode cL_law 361 = .ok (.aload_n 1, 1) := by decide +kernel
theorem dL_law_362 : decode cL_law 362 = .ok (.iload 11, 2) := by decide +kernel
theorem dL_law_364 : decode cL_law 364 = .ok (.iload 17, 2) := by decide +kernel
theorem dL_law_366 : decode cL_law 366 = .ok (.iconst 3, 1) := by decide +kernel
theorem dL_law_367 : decode cL_law 367 = .ok (.invokevirtual 99, 3) := by decide +kernel
theorem dL_law_370 : decode cL_law 370 = .ok (.ifCond .eq 5, 3) := by decide +kernel
theorem dL_law_373 : decode cL_law 373 = .ok (.iconst 0, 1) := by decide +kernel
theorem dL_law_374 : decode cL_law 374 = .ok (.ireturn, 1) := by decide +kernel
theorem dL_law_375 : decode cL_law 375 = .ok (.iinc 17 1, 3) := by decide +kernel
theorem dL_law_378 : decode cL_law 378 = .ok (.goto (-190), 3) := by decide +kernel
theorem dL_law_381 : decode cL_law 381 = .ok (.iload 14, 2) := by decide +kernel
theorem dL_law_383 : decode cL_law 383 = .ok (.iload 12, 2) := by decide +kernel
theorem dL_law_385 : decode cL_law 385 = .ok (.ifCond .le 7, 3) := by decide +kernel
theorem dL_law_388 : decode cL_law 388 = .ok (.iconst 1, 1) := by decide +kernel
theorem dL_law_389 : decode cL_law 389 = .ok (.goto 4, 3) := by decide +kernel
theorem dL_law_392 : decode cL_law 392 = .ok (.iconst 0, 1) := by decide +kernel
theorem dL_law_393 : decode cL_law 393 = .ok (.if_icmp .ne 74, 3) := by decide +kernel
theorem dL_law_396 : decode cL_law 396 = .ok (.aload_n 1, 1) := by decide +kernel
theorem dL_law_397 : decode cL_law 397 = .ok (.iload 11, 2) := by decide +kernel
theorem dL_law_399 : decode cL_law 399 = .ok (.iconst 4, 1) := by decide +kernel
theorem dL_law_400 : decode cL_law 400 = .ok (.invokevirtual 93, 3) := by decide +kernel
theorem dL_law_403 : decode cL_law 403 = .ok (.ifCond .ne 7, 3) := by decide +kernel
theorem dL_law_406 : decode cL_law 406 = .ok (.iconst 1, 1) := by decide +kernel
theorem dL_law_407 : decode cL_law 407 = .ok (.goto 4, 3) := by decide +kernel
theorem dL_law_410 : decode cL_law 410 = .ok (.iconst 0, 1) := by decide +kernel
theorem dL_law_411 : decode cL_law 411 = .ok (.iload 12, 2) := by decide +kernel
theorem dL_law_413 : decode cL_law 413 = .ok (.ifCond .le 7, 3) := by decide +kernel
theorem dL_law_416 : decode cL_law 416 = .ok (.iconst 1, 1) := by decide +kernel
theorem dL_law_417 : decode cL_law 417 = .ok (.goto 4, 3) := by decide +kernel
theorem dL_law_420 : decode cL_law 420 = .ok (.iconst 0, 1) := by decide +kernel
theorem dL_law_421 : decode cL_law 421 = .ok (.if_icmp .ne 46, 3) := by decide +kernel
theorem dL_law_424 : decode cL_law 424 = .ok (.aload_n 1, 1) := by decide +kernel
theorem dL_law_425 : decode cL_law 425 = .ok (.iload 11, 2) := by decide +kernel
theorem dL_law_427 : decode cL_law 427 = .ok (.iconst 3, 1) := by decide +kernel
theorem dL_law_428 : decode cL_law 428 = .ok (.invokevirtual 93, 3) := by decide +kernel
theorem dL_law_431 : decode cL_law 431 = .ok (.iload 16, 2) := by decide +kernel
theorem dL_law_433 : decode cL_law 433 = .ok (.if_icmp .ne 34, 3) := by decide +kernel
theorem dL_law_436 : decode cL_law 436 = .ok (.aload_n 1, 1) := by decide +kernel
theorem dL_law_437 : decode cL_law 437 = .ok (.iload 11, 2) := by decide +kernel
theorem dL_law_439 : decode cL_law 439 = .ok (.iconst 3, 1) := by decide +kernel
theorem dL_law_440 : decode cL_law 440 = .ok (.invokevirtual 93, 3) := by decide +kernel
theorem dL_law_443 : decode cL_law 443 = .ok (.ifCond .lt 8, 3) := by decide +kernel
theorem dL_law_446 : decode cL_law 446 = .ok (.iload 12, 2) := by decide +kernel
theorem dL_law_448 : decode cL_law 448 = .ok (.ifCond .eq 19, 3) := by decide +kernel
theorem dL_law_451 : decode cL_law 451 = .ok (.iload 15, 2) := by decide +kernel
theorem dL_law_453 : decode cL_law 453 = .ok (.iload 12, 2) := by decide +kernel
theorem dL_law_455 : decode cL_law 455 = .ok (.iconst 1, 1) := by decide +kernel
theorem dL_law_456 : decode cL_law 456 = .ok (.if_icmp .ne 7, 3) := by decide +kernel
theorem dL_law_459 : decode cL_law 459 = .ok (.iconst 1, 1) := by decide +kernel
theorem dL_law_460 : decode cL_law 460 = .ok (.goto 4, 3) := by decide +kernel
theorem dL_law_463 : decode cL_law 463 = .ok (.iconst 0, 1) := by decide +kernel
theorem dL_law_464 : decode cL_law 464 = .ok (.if_icmp .eq 5, 3) := by decide +kernel
theorem dL_law_467 : decode cL_law 467 = .ok (.iconst 0, 1) := by decide +kernel
theorem dL_law_468 : decode cL_law 468 = .ok (.ireturn, 1) := by decide +kernel
theorem dL_law_469 : decode cL_law 469 = .ok (.iload 13, 2) := by decide +kernel
theorem dL_law_471 : decode cL_law 471 = .ok (.ifCond .ge 7, 3) := by decide +kernel
theorem dL_law_474 : decode cL_law 474 = .ok (.iconst 1, 1) := by decide +kernel
theorem dL_law_475 : decode cL_law 475 = .ok (.goto 4, 3) := by decide +kernel
theorem dL_law_478 : decode cL_law 478 = .ok (.iconst 0, 1) := by decide +kernel
theorem dL_law_479 : decode cL_law 479 = .ok (.iload 16, 2) := by decide +kernel
theorem dL_law_481 : decode cL_law 481 = .ok (.ifCond .ge 7, 3) := by decide +kernel
theorem dL_law_484 : decode cL_law 484 = .ok (.iconst 1, 1) := by decide +kernel
theorem dL_law_485 : decode cL_law 485 = .ok (.goto 4, 3) := by decide +kernel
theorem dL_law_488 : decode cL_law 488 = .ok (.iconst 0, 1) := by decide +kernel
theorem dL_law_489 : decode cL_law 489 = .ok (.if_icmp .ne 48, 3) := by decide +kernel
theorem dL_law_492 : decode cL_law 492 = .ok (.iload 13, 2) := by decide +kernel
theorem dL_law_494 : decode cL_law 494 = .ok (.ifCond .lt 17, 3) := by decide +kernel
theorem dL_law_497 : decode cL_law 497 = .ok (.aload_n 1, 1) := by decide +kernel
theorem dL_law_498 : decode cL_law 498 = .ok (.iload 11, 2) := by decide +kernel
theorem dL_law_500 : decode cL_law 500 = .ok (.iload 13, 2) := by decide +kernel
theorem dL_law_502 : decode cL_law 502 = .ok (.iconst 2, 1) := by decide +kernel
theorem dL_law_503 : decode cL_law 503 = .ok (.invokevirtual 99, 3) := by decide +kernel
theorem dL_law_506 : decode cL_law 506 = .ok (.iload 16, 2) := by decide +kernel
theorem dL_law_508 : decode cL_law 508 = .ok (.if_icmp .ne 29, 3) := by decide +kernel
theorem dL_law_511 : decode cL_law 511 = .ok (.aload_n 1, 1) := by decide +kernel
theorem dL_law_512 : decode cL_law 512 = .ok (.iload 11, 2) := by decide +kernel
theorem dL_law_514 : decode cL_law 514 = .ok (.iconst 3, 1) := by decide +kernel
theorem dL_law_515 : decode cL_law 515 = .ok (.invokevirtual 93, 3) := by decide +kernel
theorem dL_law_518 : decode cL_law 518 = .ok (.sipush 9998, 3) := by decide +kernel
theorem dL_law_521 : decode cL_law 521 = .ok (.if_icmp .gt 16, 3) := by decide +kernel
theorem dL_law_524 : decode cL_law 524 = .ok (.aload_n 1, 1) := by decide +kernel
theorem dL_law_525 : decode cL_law 525 = .ok (.iload 11, 2) := by decide +kernel
theorem dL_law_527 : decode cL_law 527 = .ok (.iconst 4, 1) := by decide +kernel
theorem dL_law_528 : decode cL_law 528 = .ok (.invokevirtual 93, 3) := by decide +kernel
theorem dL_law_531 : decode cL_law 531 = .ok (.sipush 9998, 3) := by decide +kernel
theorem dL_law_534 : decode cL_law 534 = .ok (.if_icmp .le 5, 3) := by decide +kernel
theorem dL_law_537 : decode cL_law 537 = .ok (.iconst 0, 1) := by decide +kernel
theorem dL_law_538 : decode cL_law 538 = .ok (.ireturn, 1) := by decide +kernel
theorem dL_law_539 : decode cL_law 539 = .ok (.aload_n 1, 1) := by decide +kernel
theorem dL_law_540 : decode cL_law 540 = .ok (.iload 11, 2) := by decide +kernel
theorem dL_law_542 : decode cL_law 542 = .ok (.invokevirtual 106, 3) := by decide +kernel
theorem dL_law_545 : decode cL_law 545 = .ok (.istore 17, 2) := by decide +kernel
theorem dL_law_547 : decode cL_law 547 = .ok (.iload 12, 2) := by decide +kernel
theorem dL_law_549 : decode cL_law 549 = .ok (.ifCond .ne 13, 3) := by decide +kernel
theorem dL_law_552 : decode cL_law 552 = .ok (.iload 17, 2) := by decide +kernel
theorem dL_law_554 : decode cL_law 554 = .ok (.iload 8, 2) := by decide +kernel
theorem dL_law_556 : decode cL_law 556 = .ok (.if_icmp .eq 15, 3) := by decide +kernel
theorem dL_law_559 : decode cL_law 559 = .ok (.goto 10, 3) := by decide +kernel
theorem dL_law_562 : decode cL_law 562 = .ok (.iload 17, 2) := by decide +kernel
theorem dL_law_564 : decode cL_law 564 = .ok (.iload 8, 2) := by decide +kernel
theorem dL_law_566 : decode cL_law 566 = .ok (.if_icmp .lt 5, 3) := by decide +kernel
theorem dL_law_569 : decode cL_law 569 = .ok (.iconst 0, 1) := by decide +kernel
theorem dL_law_570 : decode cL_law 570 = .ok (.ireturn, 1) := by decide +kernel
theorem dL_law_571 : decode cL_law 571 = .ok (.iconst 0, 1) := by decide +kernel
theorem dL_law_572 : decode cL_law 572 = .ok (.istore 18, 2) := by decide +kernel
theorem dL_law_574 : decode cL_law 574 = .ok (.iload 18, 2) := by decide +kernel
theorem dL_law_576 : decode cL_law 576 = .ok (.iconst 5, 1) := by decide +kernel
theorem dL_law_577 : decode cL_law 577 = .ok (.if_icmp .ge 37, 3) := by decide +kernel
theorem dL_law_580 : decode cL_law 580 = .ok (.aload_n 1, 1) := by decide +kernel
theorem dL_law_581 : decode cL_law 581 = .ok (.iload 11, 2) := by decide +kernel
theorem dL_law_583 : decode cL_law 583 = .ok (.iload 18, 2) := by decide +kernel
theorem dL_law_585 : decode cL_law 585 = .ok (.invokevirtual 109, 3) := by decide +kernel
theorem dL_law_588 : decode cL_law 588 = .ok (.ifCond .eq 20, 3) := by decide +kernel
theorem dL_law_591 : decode cL_law 591 = .ok (.iload 12, 2) := by decide +kernel
theorem dL_law_593 : decode cL_law 593 = .ok (.ifCond .eq 13, 3) := by decide +kernel
theorem dL_law_596 : decode cL_law 596 = .ok (.aload_n 2, 1) := by decide +kernel
theorem dL_law_597 : decode cL_law 597 = .ok (.getfield 21, 3) := by decide +kernel
theorem dL_law_600 : decode cL_law 600 = .ok (.iload 18, 2) := by decide +kernel
theorem dL_law_602 : decode cL_law 602 = .ok (.baload, 1) := by decide +kernel
theorem dL_law_603 : decode cL_law 603 = .ok (.ifCond .ne 5, 3) := by decide +kernel
theorem dL_law_606 : decode cL_law 606 = .ok (.iconst 0, 1) := by decide +kernel
theorem dL_law_607 : decode cL_law 607 = .ok (.ireturn, 1) := by decide +kernel
theorem dL_law_608 : decode cL_law 608 = .ok (.iinc 18 1, 3) := by decide +kernel
theorem dL_law_611 : decode cL_law 611 = .ok (.goto (-37), 3) := by decide +kernel
theorem dL_law_614 : decode cL_law 614 = .ok (.iinc 11 1, 3) := by decide +kernel
theorem dL_law_617 : decode cL_law 617 = .ok (.goto (-503), 3) := by decide +kernel
theorem dL_law_620 : decode cL_law 620 = .ok (.iconst 2, 1) := by decide +kernel
theorem dL_law_621 : decode cL_law 621 = .ok (.istore 11, 2) := by decide +kernel
theorem dL_law_623 : decode cL_law 623 = .ok (.iload 11, 2) := by decide +kernel
theorem dL_law_625 : decode cL_law 625 = .ok (.iload 7, 2) := by decide +kernel
theorem dL_law_627 : decode cL_law 627 = .ok (.if_icmp .gt 29, 3) := by decide +kernel
theorem dL_law_630 : decode cL_law 630 = .ok (.aload 9, 2) := by decide +kernel
theorem dL_law_632 : decode cL_law 632 = .ok (.iload 11, 2) := by decide +kernel
theorem dL_law_634 : decode cL_law 634 = .ok (.iaload, 1) := by decide +kernel
theorem dL_law_635 : decode cL_law 635 = .ok (.ifCond .le 15, 3) := by decide +kernel
theorem dL_law_638 : decode cL_law 638 = .ok (.aload 9, 2) := by decide +kernel
theorem dL_law_640 : decode cL_law 640 = .ok (.iload 11, 2) := by decide +kernel
theorem dL_law_642 : decode cL_law 642 = .ok (.iconst 1, 1) := by decide +kernel
theorem dL_law_643 : decode cL_law 643 = .ok (.isub, 1) := by decide +kernel
theorem dL_law_644 : decode cL_law 644 = .ok (.iaload, 1) := by decide +kernel
theorem dL_law_645 : decode cL_law 645 = .ok (.ifCond .ne 5, 3) := by decide +kernel
theorem dL_law_648 : decode cL_law 648 = .ok (.iconst 0, 1) := by decide +kernel
theorem dL_law_649 : decode cL_law 649 = .ok (.ireturn, 1) := by decide +kernel
theorem dL_law_650 : decode cL_law 650 = .ok (.iinc 11 1, 3) := by decide +kernel
theorem dL_law_653 : decode cL_law 653 = .ok (.goto (-30), 3) := by decide +kernel
theorem dL_law_656 : decode cL_law 656 = .ok (.iload 10, 2) := by decide +kernel
theorem dL_law_658 : decode cL_law 658 = .ok (.iload 8, 2) := by decide +kernel
theorem dL_law_660 : decode cL_law 660 = .ok (.if_icmp .ne 13, 3) := by decide +kernel
theorem dL_law_663 : decode cL_law 663 = .ok (.aload_n 1, 1) := by decide +kernel
theorem dL_law_664 : decode cL_law 664 = .ok (.invokevirtual 86, 3) := by decide +kernel
theorem dL_law_667 : decode cL_law 667 = .ok (.lload 5, 2) := by decide +kernel
theorem dL_law_669 : decode cL_law 669 = .ok (.lcmp, 1) := by decide +kernel
theorem dL_law_670 : decode cL_law 670 = .ok (.ifCond .eq 5, 3) := by decide +kernel
theorem dL_law_673 : decode cL_law 673 = .ok (.iconst 0, 1) := by decide +kernel
theorem dL_law_674 : decode cL_law 674 = .ok (.ireturn, 1) := by decide +kernel
theorem dL_law_675 : decode cL_law 675 = .ok (.aload_n 1, 1) := by decide +kernel
theorem dL_law_676 : decode cL_law 676 = .ok (.invokevirtual 113, 3) := by decide +kernel
theorem dL_law_679 : decode cL_law 679 = .ok (.istore 11, 2) := by decide +kernel
theorem dL_law_681 : decode cL_law 681 = .ok (.iload 11, 2) := by decide +kernel
theorem dL_law_683 : decode cL_law 683 = .ok (.ifCond .lt 125, 3) := by decide +kernel
theorem dL_law_686 : decode cL_law 686 = .ok (.iload 11, 2) := by decide +kernel
theorem dL_law_688 : decode cL_law 688 = .ok (.bipush 100, 2) := by decide +kernel
theorem dL_law_690 : decode cL_law 690 = .ok (.idiv, 1) := by decide +kernel
theorem dL_law_691 : decode cL_law 691 = .ok (.istore 12, 2) := by decide +kernel
theorem dL_law_693 : decode cL_law 693 = .ok (.iload 11, 2) := by decide +kernel
theorem dL_law_695 : decode cL_law 695 = .ok (.bipush 10, 2) := by decide +kernel
theorem dL_law_697 : decode cL_law 697 = .ok (.idiv, 1) := by decide +kernel
theorem dL_law_698 : decode cL_law 698 = .ok (.bipush 10, 2) := by decide +kernel
theorem dL_law_700 : decode cL_law 700 = .ok (.irem, 1) := by decide +kernel
theorem dL_law_701 : decode cL_law 701 = .ok (.istore 13, 2) := by decide +kernel
theorem dL_law_703 : decode cL_law 703 = .ok (.iload 11, 2) := by decide +kernel
theorem dL_law_705 : decode cL_law 705 = .ok (.bipush 10, 2) := by decide +kernel
theorem dL_law_707 : decode cL_law 707 = .ok (.irem, 1) := by decide +kernel
theorem dL_law_708 : decode cL_law 708 = .ok (.istore 14, 2) := by decide +kernel
theorem dL_law_710 : decode cL_law 710 = .ok (.aload_n 1, 1) := by decide +kernel
theorem dL_law_711 : decode cL_law 711 = .ok (.iload 12, 2) := by decide +kernel
theorem dL_law_713 : decode cL_law 713 = .ok (.iload 13, 2) := by decide +kernel
theorem dL_law_715 : decode cL_law 715 = .ok (.iload 14, 2) := by decide +kernel
theorem dL_law_717 : decode cL_law 717 = .ok (.iconst 2, 1) := by decide +kernel
theorem dL_law_718 : decode cL_law 718 = .ok (.invokevirtual 103, 3) := by decide +kernel
theorem dL_law_721 : decode cL_law 721 = .ok (.istore 15, 2) := by decide +kernel
theorem dL_law_723 : decode cL_law 723 = .ok (.aload_n 1, 1) := by decide +kernel
theorem dL_law_724 : decode cL_law 724 = .ok (.iload 12, 2) := by decide +kernel
theorem dL_law_726 : decode cL_law 726 = .ok (.iload 13, 2) := by decide +kernel
theorem dL_law_728 : decode cL_law 728 = .ok (.iload 14, 2) := by decide +kernel
theorem dL_law_730 : decode cL_law 730 = .ok (.iconst 0, 1) := by decide +kernel
theorem dL_law_731 : decode cL_law 731 = .ok (.invokevirtual 103, 3) := by decide +kernel
theorem dL_law_734 : decode cL_law 734 = .ok (.iconst 2, 1) := by decide +kernel
theorem dL_law_735 : decode cL_law 735 = .ok (.if_icmp .ne 42, 3) := by decide +kernel
theorem dL_law_738 : decode cL_law 738 = .ok (.iload 15, 2) := by decide +kernel
theorem dL_law_740 : decode cL_law 740 = .ok (.iconst 1, 1) := by decide +kernel
theorem dL_law_741 : decode cL_law 741 = .ok (.if_icmp .lt 36, 3) := by decide +kernel
theorem dL_law_744 : decode cL_law 744 = .ok (.aload_n 1, 1) := by decide +kernel
theorem dL_law_745 : decode cL_law 745 = .ok (.iload 12, 2) := by decide +kernel
theorem dL_law_747 : decode cL_law 747 = .ok (.iload 13, 2) := by decide +kernel
theorem dL_law_749 : decode cL_law 749 = .ok (.iload 14, 2) := by decide +kernel
theorem dL_law_751 : decode cL_law 751 = .ok (.bipush 9, 2) := by decide +kernel
theorem dL_law_753 : decode cL_law 753 = .ok (.invokevirtual 61, 3) := by decide +kernel
theorem dL_law_756 : decode cL_law 756 = .ok (.ifCond .ne 21, 3) := by decide +kernel
theorem dL_law_759 : decode cL_law 759 = .ok (.aload_n 1, 1) := by decide +kernel
theorem dL_law_760 : decode cL_law 760 = .ok (.iconst 1, 1) := by decide +kernel
theorem dL_law_761 : decode cL_law 761 = .ok (.invokevirtual 90, 3) := by decide +kernel
theorem dL_law_764 : decode cL_law 764 = .ok (.iload 8, 2) := by decide +kernel
theorem dL_law_766 : decode cL_law 766 = .ok (.if_icmp .le 11, 3) := by decide +kernel
theorem dL_law_769 : decode cL_law 769 = .ok (.aload_n 1, 1) := by decide +kernel
theorem dL_law_770 : decode cL_law 770 = .ok (.iconst 5, 1) := by decide +kernel
theorem dL_law_771 : decode cL_law 771 = .ok (.invokevirtual 90, 3) := by decide +kernel
theorem dL_law_774 : decode cL_law 774 = .ok (.ifCond .ge 5, 3) := by decide +kernel
theorem dL_law_777 : decode cL_law 777 = .ok (.iconst 0, 1) := by decide +kernel
theorem dL_law_778 : decode cL_law 778 = .ok (.ireturn, 1) := by decide +kernel
theorem dL_law_779 : decode cL_law 779 = .ok (.aload_n 2, 1) := by decide +kernel
theorem dL_law_780 : decode cL_law 780 = .ok (.getfield 9, 3) := by decide +kernel
theorem dL_law_783 : decode cL_law 783 = .ok (.iload 12, 2) := by decide +kernel
theorem dL_law_785 : decode cL_law 785 = .ok (.aaload, 1) := by decide +kernel
theorem dL_law_786 : decode cL_law 786 = .ok (.iload 13, 2) := by decide +kernel
theorem dL_law_788 : decode cL_law 788 = .ok (.aaload, 1) := by decide +kernel
theorem dL_law_789 : decode cL_law 789 = .ok (.iload 14, 2) := by decide +kernel
theorem dL_law_791 : decode cL_law 791 = .ok (.aaload, 1) := by decide +kernel
theorem dL_law_792 : decode cL_law 792 = .ok (.iconst 2, 1) := by decide +kernel
theorem dL_law_793 : decode cL_law 793 = .ok (.iconst 0, 1) := by decide +kernel
theorem dL_law_794 : decode cL_law 794 = .ok (.iastore, 1) := by decide +kernel
theorem dL_law_795 : decode cL_law 795 = .ok (.aload_n 1, 1) := by decide +kernel
theorem dL_law_796 : decode cL_law 796 = .ok (.iconst 1, 1) := by decide +kernel
theorem dL_law_797 : decode cL_law 797 = .ok (.invokevirtual 90, 3) := by decide +kernel
theorem dL_law_800 : decode cL_law 800 = .ok (.istore 8, 2) := by decide +kernel
theorem dL_law_802 : decode cL_law 802 = .ok (.aload_n 1, 1) := by decide +kernel
theorem dL_law_803 : decode cL_law 803 = .ok (.invokevirtual 86, 3) := by decide +kernel
theorem dL_law_806 : decode cL_law 806 = .ok (.lstore 5, 2) := by decide +kernel
theorem dL_law_808 : decode cL_law 808 = .ok (.iload 4, 2) := by decide +kernel
theorem dL_law_810 : decode cL_law 810 = .ok (.iconst 5, 1) := by decide +kernel
theorem dL_law_811 : decode cL_law 811 = .ok (.ishr, 1) := by decide +kernel
theorem dL_law_812 : decode cL_law 812 = .ok (.iconst 5, 1) := by decide +kernel
theorem dL_law_813 : decode cL_law 813 = .ok (.invokestatic 15, 3) := by decide +kernel
theorem dL_law_816 : decode cL_law 816 = .ok (.istore 12, 2) := by decide +kernel
theorem dL_law_818 : decode cL_law 818 = .ok (.aload_n 1, 1) := by decide +kernel
theorem dL_law_819 : decode cL_law 819 = .ok (.iload 12, 2) := by decide +kernel
theorem dL_law_821 : decode cL_law 821 = .ok (.iconst 1, 1) := by decide +kernel
theorem dL_law_822 : decode cL_law 822 = .ok (.invokevirtual 25, 3) := by decide +kernel
theorem dL_law_825 : decode cL_law 825 = .ok (.istore 13, 2) := by decide +kernel
theorem dL_law_827 : decode cL_law 827 = .ok (.iload 13, 2) := by decide +kernel
theorem dL_law_829 : decode cL_law 829 = .ok (.aload_n 2, 1) := by decide +kernel
theorem dL_law_830 : decode cL_law 830 = .ok (.getfield 21, 3) := by decide +kernel
theorem dL_law_833 : decode cL_law 833 = .ok (.iload 12, 2) := by decide +kernel
theorem dL_law_835 : decode cL_law 835 = .ok (.baload, 1) := by decide +kernel
theorem dL_law_836 : decode cL_law 836 = .ok (.if_icmp .ne 28, 3) := by decide +kernel
theorem dL_law_839 : decode cL_law 839 = .ok (.aload_n 1, 1) := by decide +kernel
theorem dL_law_840 : decode cL_law 840 = .ok (.iconst 1, 1) := by decide +kernel
theorem dL_law_841 : decode cL_law 841 = .ok (.invokevirtual 90, 3) := by decide +kernel
theorem dL_law_844 : decode cL_law 844 = .ok (.iload 8, 2) := by decide +kernel
theorem dL_law_846 : decode cL_law 846 = .ok (.if_icmp .lt 18, 3) := by decide +kernel
theorem dL_law_849 : decode cL_law 849 = .ok (.iload 13, 2) := by decide +kernel
theorem dL_law_851 : decode cL_law 851 = .ok (.ifCond .eq 15, 3) := by decide +kernel
theorem dL_law_854 : decode cL_law 854 = .ok (.aload_n 1, 1) := by decide +kernel
theorem dL_law_855 : decode cL_law 855 = .ok (.invokevirtual 86, 3) := by decide +kernel
theorem dL_law_858 : decode cL_law 858 = .ok (.lload 5, 2) := by decide +kernel
theorem dL_law_860 : decode cL_law 860 = .ok (.lcmp, 1) := by decide +kernel
theorem dL_law_861 : decode cL_law 861 = .ok (.ifCond .eq 5, 3) := by decide +kernel
theorem dL_law_864 : decode cL_law 864 = .ok (.iconst 0, 1) := by decide +kernel
theorem dL_law_865 : decode cL_law 865 = .ok (.ireturn, 1) := by decide +kernel
theorem dL_law_866 : decode cL_law 866 = .ok (.aload_n 2, 1) := by decide +kernel
theorem dL_law_867 : decode cL_law 867 = .ok (.getfield 21, 3) := by decide +kernel
theorem dL_law_870 : decode cL_law 870 = .ok (.iload 12, 2) := by decide +kernel
theorem dL_law_872 : decode cL_law 872 = .ok (.iconst 1, 1) := by decide +kernel
theorem dL_law_873 : decode cL_law 873 = .ok (.bastore, 1) := by decide +kernel
theorem dL_law_874 : decode cL_law 874 = .ok (.aload_n 1, 1) := by decide +kernel
theorem dL_law_875 : decode cL_law 875 = .ok (.invokevirtual 86, 3) := by decide +kernel
theorem dL_law_878 : decode cL_law 878 = .ok (.lstore 5, 2) := by decide +kernel
theorem dL_law_880 : decode cL_law 880 = .ok (.iload 4, 2) := by decide +kernel
theorem dL_law_882 : decode cL_law 882 = .ok (.iconst 3, 1) := by decide +kernel
theorem dL_law_883 : decode cL_law 883 = .ok (.ishr, 1) := by decide +kernel
theorem dL_law_884 : decode cL_law 884 = .ok (.iload 7, 2) := by decide +kernel
theorem dL_law_886 : decode cL_law 886 = .ok (.invokestatic 15, 3) := by decide +kernel
theorem dL_law_889 : decode cL_law 889 = .ok (.istore 14, 2) := by decide +kernel
theorem dL_law_891 : decode cL_law 891 = .ok (.aload_n 1, 1) := by decide +kernel
theorem dL_law_892 : decode cL_law 892 = .ok (.iload 14, 2) := by decide +kernel
theorem dL_law_894 : decode cL_law 894 = .ok (.iconst 0, 1) := by decide +kernel
theorem dL_law_895 : decode cL_law 895 = .ok (.invokevirtual 93, 3) := by decide +kernel
theorem dL_law_898 : decode cL_law 898 = .ok (.istore 15, 2) := by decide +kernel
theorem dL_law_900 : decode cL_law 900 = .ok (.iload 15, 2) := by decide +kernel
theorem dL_law_902 : decode cL_law 902 = .ok (.ifCond .ne 6, 3) := by decide +kernel
theorem dL_law_905 : decode cL_law 905 = .ok (.goto 151, 3) := by decide +kernel
theorem dL_law_908 : decode cL_law 908 = .ok (.iload 4, 2) := by decide +kernel
theorem dL_law_910 : decode cL_law 910 = .ok (.bipush 6, 2) := by decide +kernel
theorem dL_law_912 : decode cL_law 912 = .ok (.ishr, 1) := by decide +kernel
theorem dL_law_913 : decode cL_law 913 = .ok (.iload 15, 2) := by decide +kernel
theorem dL_law_915 : decode cL_law 915 = .ok (.invokestatic 15, 3) := by decide +kernel
theorem dL_law_918 : decode cL_law 918 = .ok (.istore 16, 2) := by decide +kernel
theorem dL_law_920 : decode cL_law 920 = .ok (.aload_n 1, 1) := by decide +kernel
theorem dL_law_921 : decode cL_law 921 = .ok (.iload 14, 2) := by decide +kernel
theorem dL_law_923 : decode cL_law 923 = .ok (.iload 16, 2) := by decide +kernel
theorem dL_law_925 : decode cL_law 925 = .ok (.iconst 0, 1) := by decide +kernel
theorem dL_law_926 : decode cL_law 926 = .ok (.invokevirtual 99, 3) := by decide +kernel
theorem dL_law_929 : decode cL_law 929 = .ok (.istore 17, 2) := by decide +kernel
theorem dL_law_931 : decode cL_law 931 = .ok (.iload 17, 2) := by decide +kernel
theorem dL_law_933 : decode cL_law 933 = .ok (.ifCond .ne 6, 3) := by decide +kernel
theorem dL_law_936 : decode cL_law 936 = .ok (.goto 120, 3) := by decide +kernel
theorem dL_law_939 : decode cL_law 939 = .ok (.iload 4, 2) := by decide +kernel
theorem dL_law_941 : decode cL_law 941 = .ok (.bipush 7, 2) := by decide +kernel
theorem dL_law_943 : decode cL_law 943 = .ok (.ishr, 1) := by decide +kernel
theorem dL_law_944 : decode cL_law 944 = .ok (.iload 17, 2) := by decide +kernel
theorem dL_law_946 : decode cL_law 946 = .ok (.invokestatic 15, 3) := by decide +kernel
theorem dL_law_949 : decode cL_law 949 = .ok (.istore 18, 2) := by decide +kernel
theorem dL_law_951 : decode cL_law 951 = .ok (.aload_n 1, 1) := by decide +kernel
theorem dL_law_952 : decode cL_law 952 = .ok (.iload 14, 2) := by decide +kernel
theorem dL_law_954 : decode cL_law 954 = .ok (.iload 16, 2) := by decide +kernel
theorem dL_law_956 : decode cL_law 956 = .ok (.iload 18, 2) := by decide +kernel
theorem dL_law_958 : decode cL_law 958 = .ok (.iconst 3, 1) := by decide +kernel
theorem dL_law_959 : decode cL_law 959 = .ok (.invokevirtual 103, 3) := by decide +kernel
theorem dL_law_962 : decode cL_law 962 = .ok (.iconst 1, 1) := by decide +kernel
theorem dL_law_963 : decode cL_law 963 = .ok (.if_icmp .ne 7, 3) := by decide +kernel
theorem dL_law_966 : decode cL_law 966 = .ok (.iconst 1, 1) := by decide +kernel
theorem dL_law_967 : decode cL_law 967 = .ok (.goto 4, 3) := by decide +kernel
theorem dL_law_970 : decode cL_law 970 = .ok (.iconst 0, 1) := by decide +kernel
theorem dL_law_971 : decode cL_law 971 = .ok (.istore 19, 2) := by decide +kernel
theorem dL_law_973 : decode cL_law 973 = .ok (.aload_n 1, 1) := by decide +kernel
theorem dL_law_974 : decode cL_law 974 = .ok (.iload 14, 2) := by decide +kernel
theorem dL_law_976 : decode cL_law 976 = .ok (.iload 16, 2) := by decide +kernel
theorem dL_law_978 : decode cL_law 978 = .ok (.iload 18, 2) := by decide +kernel
theorem dL_law_980 : decode cL_law 980 = .ok (.invokevirtual 52, 3) := by decide +kernel
theorem dL_law_983 : decode cL_law 983 = .ok (.iload 19, 2) := by decide +kernel
theorem dL_law_985 : decode cL_law 985 = .ok (.if_icmp .eq 69, 3) := by decide +kernel
theorem dL_law_988 : decode cL_law 988 = .ok (.aload_n 1, 1) := by decide +kernel
theorem dL_law_989 : decode cL_law 989 = .ok (.iload 14, 2) := by decide +kernel
theorem dL_law_991 : decode cL_law 991 = .ok (.iload 16, 2) := by decide +kernel
theorem dL_law_993 : decode cL_law 993 = .ok (.iload 18, 2) := by decide +kernel
theorem dL_law_995 : decode cL_law 995 = .ok (.iconst 3, 1) := by decide +kernel
theorem dL_law_996 : decode cL_law 996 = .ok (.invokevirtual 103, 3) := by decide +kernel
theorem dL_law_999 : decode cL_law 999 = .ok (.iload 19, 2) := by decide +kernel
theorem dL_law_1001 : decode cL_law 1001 = .ok (.ifCond .eq 7, 3) := by decide +kernel
theorem dL_law_1004 : decode cL_law 1004 = .ok (.iconst 0, 1) := by decide +kernel
theorem dL_law_1005 : decode cL_law 1005 = .ok (.goto 4, 3) := by decide +kernel
theorem dL_law_1008 : decode cL_law 1008 = .ok (.iconst 1, 1) := by decide +kernel
theorem dL_law_1009 : decode cL_law 1009 = .ok (.if_icmp .ne 45, 3) := by decide +kernel
theorem dL_law_1012 : decode cL_law 1012 = .ok (.iload 19, 2) := by decide +kernel
theorem dL_law_1014 : decode cL_law 1014 = .ok (.ifCond .ne 15, 3) := by decide +kernel
theorem dL_law_1017 : decode cL_law 1017 = .ok (.aload_n 1, 1) := by decide +kernel
theorem dL_law_1018 : decode cL_law 1018 = .ok (.iload 14, 2) := by decide +kernel
theorem dL_law_1020 : decode cL_law 1020 = .ok (.iload 16, 2) := by decide +kernel
theorem dL_law_1022 : decode cL_law 1022 = .ok (.iconst 1, 1) := by decide +kernel
theorem dL_law_1023 : decode cL_law 1023 = .ok (.invokevirtual 99, 3) := by decide +kernel
theorem dL_law_1026 : decode cL_law 1026 = .ok (.ifCond .ne 28, 3) := by decide +kernel
theorem dL_law_1029 : decode cL_law 1029 = .ok (.aload_n 1, 1) := by decide +kernel
theorem dL_law_1030 : decode cL_law 1030 = .ok (.iload 14, 2) := by decide +kernel
theorem dL_law_1032 : decode cL_law 1032 = .ok (.iload 16, 2) := by decide +kernel
theorem dL_law_1034 : decode cL_law 1034 = .ok (.iload 18, 2) := by decide +kernel
theorem dL_law_1036 : decode cL_law 1036 = .ok (.invokevirtual 52, 3) := by decide +kernel
theorem dL_law_1039 : decode cL_law 1039 = .ok (.iload 19, 2) := by decide +kernel
theorem dL_law_1041 : decode cL_law 1041 = .ok (.if_icmp .ne 13, 3) := by decide +kernel
theorem dL_law_1044 : decode cL_law 1044 = .ok (.aload_n 1, 1) := by decide +kernel
theorem dL_law_1045 : decode cL_law 1045 = .ok (.invokevirtual 86, 3) := by decide +kernel
theorem dL_law_1048 : decode cL_law 1048 = .ok (.lload 5, 2) := by decide +kernel
theorem dL_law_1050 : decode cL_law 1050 = .ok (.lcmp, 1) := by decide +kernel
theorem dL_law_1051 : decode cL_law 1051 = .ok (.ifCond .eq 5, 3) := by decide +kernel
theorem dL_law_1054 : decode cL_law 1054 = .ok (.iconst 0, 1) := by decide +kernel
theorem dL_law_1055 : decode cL_law 1055 = .ok (.ireturn, 1) := by decide +kernel
theorem dL_law_1056 : decode cL_law 1056 = .ok (.iinc 3 1, 3) := by decide +kernel
theorem dL_law_1059 : decode cL_law 1059 = .ok (.goto (-1037), 3) := by decide +kernel
theorem dL_law_1062 : decode cL_law 1062 = .ok (.aload_n 2, 1) := by decide +kernel
theorem dL_law_1063 : decode cL_law 1063 = .ok (.aload_n 1, 1) := by decide +kernel
theorem dL_law_1064 : decode cL_law 1064 = .ok (.invokevirtual 116, 3) := by decide +kernel
theorem dL_law_1067 : decode cL_law 1067 = .ok (.ireturn, 1) := by decide +kernel
