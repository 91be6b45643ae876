theorem dX9_readWord_60 : decode cX9_readWord 60 = .ok (.ifCond .ne 43, 3) := by decide +kernel
theorem dX9_readWord_63 : decode cX9_readWord 63 = .ok (.aload_n 0, 1) := by decide +kernel
theorem dX9_readWord_64 : decode cX9_readWord 64 = .ok (.getfield 45, 3) := by decide +kernel
theorem dX9_readWord_67 : decode cX9_readWord 67 = .ok (.aload_n 0, 1) := by decide +kernel
theorem dX9_readWord_68 : decode cX9_readWord 68 = .ok (.getfield 162, 3) := by decide +kernel
theorem dX9_readWord_71 : decode cX9_readWord 71 = .ok (.iload_n 1, 1) := by decide +kernel
theorem dX9_readWord_72 : decode cX9_readWord 72 = .ok (.iastore, 1) := by decide +kernel
theorem dX9_readWord_73 : decode cX9_readWord 73 = .ok (.aload_n 0, 1) := by decide +kernel
theorem dX9_readWord_74 : decode cX9_readWord 74 = .ok (.getfield 48, 3) := by decide +kernel
theorem dX9_readWord_77 : decode cX9_readWord 77 = .ok (.aload_n 0, 1) := by decide +kernel
theorem dX9_readWord_78 : decode cX9_readWord 78 = .ok (.getfield 162, 3) := by decide +kernel
theorem dX9_readWord_81 : decode cX9_readWord 81 = .ok (.iload_n 2, 1) := by decide +kernel
theorem dX9_readWord_82 : decode cX9_readWord 82 = .ok (.iastore, 1) := by decide +kernel
theorem dX9_readWord_83 : decode cX9_readWord 83 = .ok (.aload_n 0, 1) := by decide +kernel
theorem dX9_readWord_84 : decode cX9_readWord 84 = .ok (.getfield 51, 3) := by decide +kernel
theorem dX9_readWord_87 : decode cX9_readWord 87 = .ok (.aload_n 0, 1) := by decide +kernel
theorem dX9_readWord_88 : decode cX9_readWord 88 = .ok (.getfield 162, 3) := by decide +kernel
theorem dX9_readWord_91 : decode cX9_readWord 91 = .ok (.iload_n 3, 1) := by decide +kernel
theorem dX9_readWord_92 : decode cX9_readWord 92 = .ok (.iastore, 1) := by decide +kernel
theorem dX9_readWord_93 : decode cX9_readWord 93 = .ok (.aload_n 0, 1) := by decide +kernel
theorem dX9_readWord_94 : decode cX9_readWord 94 = .ok (.dup, 1) := by decide +kernel
theorem dX9_readWord_95 : decode cX9_readWord 95 = .ok (.getfield 162, 3) := by decide +kernel
theorem dX9_readWord_98 : decode cX9_readWord 98 = .ok (.iconst 1, 1) := by decide +kernel
theorem dX9_readWord_99 : decode cX9_readWord 99 = .ok (.iadd, 1) := by decide +kernel
theorem dX9_readWord_100 : decode cX9_readWord 100 = .ok (.putfield 162, 3) := by decide +kernel
theorem dX9_readWord_103 : decode cX9_readWord 103 = .ok (.return_, 1) := by decide +kernel
theorem dX9_readWay_0 : decode cX9_readWay 0 = .ok (.aload_n 0, 1) := by decide +kernel
theorem dX9_readWay_1 : decode cX9_readWay 1 = .ok (.getfield 172, 3) := by decide +kernel
theorem dX9_readWay_4 : decode cX9_readWay 4 = .ok (.bipush 10, 2) := by decide +kernel
theorem dX9_readWay_6 : decode cX9_readWay 6 = .ok (.if_icmp .ne 12, 3) := by decide +kernel
theorem dX9_readWay_9 : decode cX9_readWay 9 = .ok (.aload_n 0, 1) := by decide +kernel
theorem dX9_readWay_10 : decode cX9_readWay 10 = .ok (.iconst 3, 1) := by decide +kernel
theorem dX9_readWay_11 : decode cX9_readWay 11 = .ok (.aload_n 0, 1) := by decide +kernel
theorem dX9_readWay_12 : decode cX9_readWay 12 = .ok (.getfield 144, 3) := by decide +kernel
theorem dX9_readWay_15 : decode cX9_readWay 15 = .ok (.invokevirtual 155, 3) := by decide +kernel
theorem dX9_readWay_18 : decode cX9_readWay 18 = .ok (.aload_n 0, 1) := by decide +kernel
theorem dX9_readWay_19 : decode cX9_readWay 19 = .ok (.dup, 1) := by decide +kernel
theorem dX9_readWay_20 : decode cX9_readWay 20 = .ok (.getfield 144, 3) := by decide +kernel
theorem dX9_readWay_23 : decode cX9_readWay 23 = .ok (.iconst 1, 1) := by decide +kernel
theorem dX9_readWay_24 : decode cX9_readWay 24 = .ok (.iadd, 1) := by decide +kernel
theorem dX9_readWay_25 : decode cX9_readWay 25 = .ok (.putfield 144, 3) := by decide +kernel
theorem dX9_readWay_28 : decode cX9_readWay 28 = .ok (.aload_n 0, 1) := by decide +kernel
theorem dX9_readWay_29 : decode cX9_readWay 29 = .ok (.invokevirtual 175, 3) := by decide +kernel
theorem dX9_readWay_32 : decode cX9_readWay 32 = .ok (.istore_n 1, 1) := by decide +kernel
theorem dX9_readWay_33 : decode cX9_readWay 33 = .ok (.aload_n 0, 1) := by decide +kernel
theorem dX9_readWay_34 : decode cX9_readWay 34 = .ok (.getfield 138, 3) := by decide +kernel
theorem dX9_readWay_37 : decode cX9_readWay 37 = .ok (.ifCond .ne 25, 3) := by decide +kernel
theorem dX9_readWay_40 : decode cX9_readWay 40 = .ok (.aload_n 0, 1) := by decide +kernel
theorem dX9_readWay_41 : decode cX9_readWay 41 = .ok (.getfield 54, 3) := by decide +kernel
theorem dX9_readWay_44 : decode cX9_readWay 44 = .ok (.iconst 2, 1) := by decide +kernel
theorem dX9_readWay_45 : decode cX9_readWay 45 = .ok (.iload_n 1, 1) := by decide +kernel
theorem dX9_readWay_46 : decode cX9_readWay 46 = .ok (.imul, 1) := by decide +kernel
theorem dX9_readWay_47 : decode cX9_readWay 47 = .ok (.iconst 1, 1) := by decide +kernel
theorem dX9_readWay_48 : decode cX9_readWay 48 = .ok (.iadd, 1) := by decide +kernel
theorem dX9_readWay_49 : decode cX9_readWay 49 = .ok (.iaload, 1) := by decide +kernel
theorem dX9_readWay_50 : decode cX9_readWay 50 = .ok (.ifCond .eq 12, 3) := by decide +kernel
theorem dX9_readWay_53 : decode cX9_readWay 53 = .ok (.aload_n 0, 1) := by decide +kernel
theorem dX9_readWay_54 : decode cX9_readWay 54 = .ok (.iconst 4, 1) := by decide +kernel
theorem dX9_readWay_55 : decode cX9_readWay 55 = .ok (.aload_n 0, 1) := by decide +kernel
theorem dX9_readWay_56 : decode cX9_readWay 56 = .ok (.getfield 159, 3) := by decide +kernel
theorem dX9_readWay_59 : decode cX9_readWay 59 = .ok (.invokevirtual 155, 3) := by decide +kernel
theorem dX9_readWay_62 : decode cX9_readWay 62 = .ok (.aload_n 0, 1) := by decide +kernel
theorem dX9_readWay_63 : decode cX9_readWay 63 = .ok (.invokevirtual 147, 3) := by decide +kernel
theorem dX9_readWay_66 : decode cX9_readWay 66 = .ok (.istore_n 2, 1) := by decide +kernel
theorem dX9_readWay_67 : decode cX9_readWay 67 = .ok (.aload_n 0, 1) := by decide +kernel
theorem dX9_readWay_68 : decode cX9_readWay 68 = .ok (.getfield 144, 3) := by decide +kernel
theorem dX9_readWay_71 : decode cX9_readWay 71 = .ok (.istore_n 3, 1) := by decide +kernel
theorem dX9_readWay_72 : decode cX9_readWay 72 = .ok (.aload_n 0, 1) := by decide +kernel
theorem dX9_readWay_73 : decode cX9_readWay 73 = .ok (.iconst 1, 1) := by decide +kernel
theorem dX9_readWay_74 : decode cX9_readWay 74 = .ok (.sipush 255, 3) := by decide +kernel
theorem dX9_readWay_77 : decode cX9_readWay 77 = .ok (.invokevirtual 165, 3) := by decide +kernel
theorem dX9_readWay_80 : decode cX9_readWay 80 = .ok (.istore 4, 2) := by decide +kernel
theorem dX9_readWay_82 : decode cX9_readWay 82 = .ok (.aload_n 0, 1) := by decide +kernel
theorem dX9_readWay_83 : decode cX9_readWay 83 = .ok (.getfield 138, 3) := by decide +kernel
theorem dX9_readWay_86 : decode cX9_readWay 86 = .ok (.ifCond .ne 28, 3) := by decide +kernel
theorem dX9_readWay_89 : decode cX9_readWay 89 = .ok (.iload 4, 2) := by decide +kernel
theorem dX9_readWay_91 : decode cX9_readWay 91 = .ok (.aload_n 0, 1) := by decide +kernel
theorem dX9_readWay_92 : decode cX9_readWay 92 = .ok (.getfield 162, 3) := by decide +kernel
theorem dX9_readWay_95 : decode cX9_readWay 95 = .ok (.ishr, 1) := by decide +kernel
theorem dX9_readWay_96 : decode cX9_readWay 96 = .ok (.ifCond .ne 12, 3) := by decide +kernel
theorem dX9_readWay_99 : decode cX9_readWay 99 = .ok (.iload 4, 2) := by decide +kernel
theorem dX9_readWay_101 : decode cX9_readWay 101 = .ok (.iload_n 1, 1) := by decide +kernel
theorem dX9_readWay_102 : decode cX9_readWay 102 = .ok (.invokestatic 178, 3) := by decide +kernel
theorem dX9_readWay_105 : decode cX9_readWay 105 = .ok (.ifCond .eq 9, 3) := by decide +kernel
theorem dX9_readWay_108 : decode cX9_readWay 108 = .ok (.aload_n 0, 1) := by decide +kernel
theorem dX9_readWay_109 : decode cX9_readWay 109 = .ok (.iconst 2, 1) := by decide +kernel
theorem dX9_readWay_110 : decode cX9_readWay 110 = .ok (.iload_n 3, 1) := by decide +kernel
theorem dX9_readWay_111 : decode cX9_readWay 111 = .ok (.invokevirtual 155, 3) := by decide +kernel
theorem dX9_readWay_114 : decode cX9_readWay 114 = .ok (.aload_n 0, 1) := by decide +kernel
theorem dX9_readWay_115 : decode cX9_readWay 115 = .ok (.invokevirtual 169, 3) := by decide +kernel
theorem dX9_readWay_118 : decode cX9_readWay 118 = .ok (.aload_n 0, 1) := by decide +kernel
theorem dX9_readWay_119 : decode cX9_readWay 119 = .ok (.getfield 138, 3) := by decide +kernel
theorem dX9_readWay_122 : decode cX9_readWay 122 = .ok (.ifCond .ne 42, 3) := by decide +kernel
theorem dX9_readWay_125 : decode cX9_readWay 125 = .ok (.aload_n 0, 1) := by decide +kernel
theorem dX9_readWay_126 : decode cX9_readWay 126 = .ok (.getfield 54, 3) := by decide +kernel
theorem dX9_readWay_129 : decode cX9_readWay 129 = .ok (.aload_n 0, 1) := by decide +kernel
theorem dX9_readWay_130 : decode cX9_readWay 130 = .ok (.getfield 54, 3) := by decide +kernel
theorem dX9_readWay_133 : decode cX9_readWay 133 = .ok (.iconst 2, 1) := by decide +kernel
theorem dX9_readWay_134 : decode cX9_readWay 134 = .ok (.iload_n 1, 1) := by decide +kernel
theorem dX9_readWay_135 : decode cX9_readWay 135 = .ok (.imul, 1) := by decide +kernel
theorem dX9_readWay_136 : decode cX9_readWay 136 = .ok (.iaload, 1) := by decide +kernel
theorem dX9_readWay_137 : decode cX9_readWay 137 = .ok (.ifCond .ne 9, 3) := by decide +kernel
theorem dX9_readWay_140 : decode cX9_readWay 140 = .ok (.iconst 2, 1) := by decide +kernel
theorem dX9_readWay_141 : decode cX9_readWay 141 = .ok (.iload_n 1, 1) := by decide +kernel
theorem dX9_readWay_142 : decode cX9_readWay 142 = .ok (.imul, 1) := by decide +kernel
theorem dX9_readWay_143 : decode cX9_readWay 143 = .ok (.goto 8, 3) := by decide +kernel
theorem dX9_readWay_146 : decode cX9_readWay 146 = .ok (.iconst 2, 1) := by decide +kernel
theorem dX9_readWay_147 : decode cX9_readWay 147 = .ok (.iload_n 1, 1) := by decide +kernel
theorem dX9_readWay_148 : decode cX9_readWay 148 = .ok (.imul, 1) := by decide +kernel
theorem dX9_readWay_149 : decode cX9_readWay 149 = .ok (.iconst 1, 1) := by decide +kernel
theorem dX9_readWay_150 : decode cX9_readWay 150 = .ok (.iadd, 1) := by decide +kernel
theorem dX9_readWay_151 : decode cX9_readWay 151 = .ok (.iload 4, 2) := by decide +kernel
theorem dX9_readWay_153 : decode cX9_readWay 153 = .ok (.iastore, 1) := by decide +kernel
theorem dX9_readWay_154 : decode cX9_readWay 154 = .ok (.aload_n 0, 1) := by decide +kernel
theorem dX9_readWay_155 : decode cX9_readWay 155 = .ok (.dup, 1) := by decide +kernel
theorem dX9_readWay_156 : decode cX9_readWay 156 = .ok (.getfield 172, 3) := by decide +kernel
theorem dX9_readWay_159 : decode cX9_readWay 159 = .ok (.iconst 1, 1) := by decide +kernel
theorem dX9_readWay_160 : decode cX9_readWay 160 = .ok (.iadd, 1) := by decide +kernel
theorem dX9_readWay_161 : decode cX9_readWay 161 = .ok (.putfield 172, 3) := by decide +kernel
theorem dX9_readWay_164 : decode cX9_readWay 164 = .ok (.return_, 1) := by decide +kernel
theorem dX9_readPointing_0 : decode cX9_readPointing 0 = .ok (.aload_n 0, 1) := by decide +kernel
theorem dX9_readPointing_1 : decode cX9_readPointing 1 = .ok (.dup, 1) := by decide +kernel
theorem dX9_readPointing_2 : decode cX9_readPointing 2 = .ok (.getfield 144, 3) := by decide +kernel
theorem dX9_readPointing_5 : decode cX9_readPointing 5 = .ok (.iconst 1, 1) := by decide +kernel
theorem dX9_readPointing_6 : decode cX9_readPointing 6 = .ok (.iadd, 1) := by decide +kernel
theorem dX9_readPointing_7 : decode cX9_readPointing 7 = .ok (.putfield 144, 3) := by decide +kernel
theorem dX9_readPointing_10 : decode cX9_readPointing 10 = .ok (.aload_n 0, 1) := by decide +kernel
theorem dX9_readPointing_11 : decode cX9_readPointing 11 = .ok (.invokevirtual 175, 3) := by decide +kernel
theorem dX9_readPointing_14 : decode cX9_readPointing 14 = .ok (.istore_n 1, 1) := by decide +kernel
theorem dX9_readPointing_15 : decode cX9_readPointing 15 = .ok (.aload_n 0, 1) := by decide +kernel
theorem dX9_readPointing_16 : decode cX9_readPointing 16 = .ok (.getfield 138, 3) := by decide +kernel
theorem dX9_readPointing_19 : decode cX9_readPointing 19 = .ok (.ifCond .ne 21, 3) := by decide +kernel
theorem dX9_readPointing_22 : decode cX9_readPointing 22 = .ok (.aload_n 0, 1) := by decide +kernel
theorem dX9_readPointing_23 : decode cX9_readPointing 23 = .ok (.getfield 57, 3) := by decide +kernel
theorem dX9_readPointing_26 : decode cX9_readPointing 26 = .ok (.iload_n 1, 1) := by decide +kernel
theorem dX9_readPointing_27 : decode cX9_readPointing 27 = .ok (.baload, 1) := by decide +kernel
theorem dX9_readPointing_28 : decode cX9_readPointing 28 = .ok (.ifCond .eq 12, 3) := by decide +kernel
theorem dX9_readPointing_31 : decode cX9_readPointing 31 = .ok (.aload_n 0, 1) := by decide +kernel
theorem dX9_readPointing_32 : decode cX9_readPointing 32 = .ok (.iconst 4, 1) := by decide +kernel
theorem dX9_readPointing_33 : decode cX9_readPointing 33 = .ok (.aload_n 0, 1) := by decide +kernel
theorem dX9_readPointing_34 : decode cX9_readPointing 34 = .ok (.getfield 159, 3) := by decide +kernel
theorem dX9_readPointing_37 : decode cX9_readPointing 37 = .ok (.invokevirtual 155, 3) := by decide +kernel
theorem dX9_readPointing_40 : decode cX9_readPointing 40 = .ok (.aload_n 0, 1) := by decide +kernel
theorem dX9_readPointing_41 : decode cX9_readPointing 41 = .ok (.invokevirtual 169, 3) := by decide +kernel
theorem dX9_readPointing_44 : decode cX9_readPointing 44 = .ok (.aload_n 0, 1) := by decide +kernel
theorem dX9_readPointing_45 : decode cX9_readPointing 45 = .ok (.getfield 138, 3) := by decide +kernel
theorem dX9_readPointing_48 : decode cX9_readPointing 48 = .ok (.ifCond .ne 10, 3) := by decide +kernel
theorem dX9_readPointing_51 : decode cX9_readPointing 51 = .ok (.aload_n 0, 1) := by decide +kernel
theorem dX9_readPointing_52 : decode cX9_readPointing 52 = .ok (.getfield 57, 3) := by decide +kernel
theorem dX9_readPointing_55 : decode cX9_readPointing 55 = .ok (.iload_n 1, 1) := by decide +kernel
theorem dX9_readPointing_56 : decode cX9_readPointing 56 = .ok (.iconst 1, 1) := by decide +kernel
theorem dX9_readPointing_57 : decode cX9_readPointing 57 = .ok (.bastore, 1) := by decide +kernel
theorem dX9_readPointing_58 : decode cX9_readPointing 58 = .ok (.return_, 1) := by decide +kernel
theorem dX9_readPerson_0 : decode cX9_readPerson 0 = .ok (.aload_n 0, 1) := by decide +kernel
theorem dX9_readPerson_1 : decode cX9_readPerson 1 = .ok (.getfield 182, 3) := by decide +kernel
theorem dX9_readPerson_4 : decode cX9_readPerson 4 = .ok (.iconst 5, 1) := by decide +kernel
theorem dX9_readPerson_5 : decode cX9_readPerson 5 = .ok (.if_icmp .ne 12, 3) := by decide +kernel
theorem dX9_readPerson_8 : decode cX9_readPerson 8 = .ok (.aload_n 0, 1) := by decide +kernel
theorem dX9_readPerson_9 : decode cX9_readPerson 9 = .ok (.iconst 3, 1) := by decide +kernel
theorem dX9_readPerson_10 : decode cX9_readPerson 10 = .ok (.aload_n 0, 1) := by decide +kernel
theorem dX9_readPerson_11 : decode cX9_readPerson 11 = .ok (.getfield 144, 3) := by decide +kernel
theorem dX9_readPerson_14 : decode cX9_readPerson 14 = .ok (.invokevirtual 155, 3) := by decide +kernel
theorem dX9_readPerson_17 : decode cX9_readPerson 17 = .ok (.aload_n 0, 1) := by decide +kernel
theorem dX9_readPerson_18 : decode cX9_readPerson 18 = .ok (.dup, 1) := by decide +kernel
theorem dX9_readPerson_19 : decode cX9_readPerson 19 = .ok (.getfield 144, 3) := by decide +kernel
theorem dX9_readPerson_22 : decode cX9_readPerson 22 = .ok (.iconst 1, 1) := by decide +kernel
theorem dX9_readPerson_23 : decode cX9_readPerson 23 = .ok (.iadd, 1) := by decide +kernel
theorem dX9_readPerson_24 : decode cX9_readPerson 24 = .ok (.putfield 144, 3) := by decide +kernel
theorem dX9_readPerson_27 : decode cX9_readPerson 27 = .ok (.aload_n 0, 1) := by decide +kernel
theorem dX9_readPerson_28 : decode cX9_readPerson 28 = .ok (.iconst 0, 1) := by decide +kernel
theorem dX9_readPerson_29 : decode cX9_readPerson 29 = .ok (.iconst 1, 1) := by decide +kernel
theorem dX9_readPerson_30 : decode cX9_readPerson 30 = .ok (.invokevirtual 165, 3) := by decide +kernel
theorem dX9_readPerson_33 : decode cX9_readPerson 33 = .ok (.istore_n 1, 1) := by decide +kernel
theorem dX9_readPerson_34 : decode cX9_readPerson 34 = .ok (.aload_n 0, 1) := by decide +kernel
theorem dX9_readPerson_35 : decode cX9_readPerson 35 = .ok (.invokevirtual 169, 3) := by decide +kernel
theorem dX9_readPerson_38 : decode cX9_readPerson 38 = .ok (.aload_n 0, 1) := by decide +kernel
theorem dX9_readPerson_39 : decode cX9_readPerson 39 = .ok (.getfield 138, 3) := by decide +kernel
theorem dX9_readPerson_42 : decode cX9_readPerson 42 = .ok (.ifCond .ne 32, 3) := by decide +kernel
theorem dX9_readPerson_45 : decode cX9_readPerson 45 = .ok (.aload_n 0, 1) := by decide +kernel
theorem dX9_readPerson_46 : decode cX9_readPerson 46 = .ok (.getfield 60, 3) := by decide +kernel
theorem dX9_readPerson_49 : decode cX9_readPerson 49 = .ok (.aload_n 0, 1) := by decide +kernel
theorem dX9_readPerson_50 : decode cX9_readPerson 50 = .ok (.getfield 182, 3) := by decide +kernel
theorem dX9_readPerson_53 : decode cX9_readPerson 53 = .ok (.iload_n 1, 1) := by decide +kernel
theorem dX9_readPerson_54 : decode cX9_readPerson 54 = .ok (.iconst 1, 1) := by decide +kernel
theorem dX9_readPerson_55 : decode cX9_readPerson 55 = .ok (.if_icmp .ne 7, 3) := by decide +kernel
theorem dX9_readPerson_58 : decode cX9_readPerson 58 = .ok (.iconst 1, 1) := by decide +kernel
theorem dX9_readPerson_59 : decode cX9_readPerson 59 = .ok (.goto 4, 3) := by decide +kernel
theorem dX9_readPerson_62 : decode cX9_readPerson 62 = .ok (.iconst 0, 1) := by decide +kernel
theorem dX9_readPerson_63 : decode cX9_readPerson 63 = .ok (.bastore, 1) := by decide +kernel
theorem dX9_readPerson_64 : decode cX9_readPerson 64 = .ok (.aload_n 0, 1) := by decide +kernel
theorem dX9_readPerson_65 : decode cX9_readPerson 65 = .ok (.dup, 1) := by decide +kernel
theorem dX9_readPerson_66 : decode cX9_readPerson 66 = .ok (.getfield 182, 3) := by decide +kernel
theorem dX9_readPerson_69 : decode cX9_readPerson 69 = .ok (.iconst 1, 1) := by decide +kernel
theorem dX9_readPerson_70 : decode cX9_readPerson 70 = .ok (.iadd, 1) := by decide +kernel
theorem dX9_readPerson_71 : decode cX9_readPerson 71 = .ok (.putfield 182, 3) := by decide +kernel
theorem dX9_readPerson_74 : decode cX9_readPerson 74 = .ok (.return_, 1) := by decide +kernel
theorem dX9_readNeed_0 : decode cX9_readNeed 0 = .ok (.aload_n 0, 1) := by decide +kernel
theorem dX9_readNeed_1 : decode cX9_readNeed 1 = .ok (.getfield 185, 3) := by decide +kernel
theorem dX9_readNeed_4 : decode cX9_readNeed 4 = .ok (.bipush 8, 2) := by decide +kernel
theorem dX9_readNeed_6 : decode cX9_readNeed 6 = .ok (.if_icmp .ne 12, 3) := by decide +kernel
theorem dX9_readNeed_9 : decode cX9_readNeed 9 = .ok (.aload_n 0, 1) := by decide +kernel
theorem dX9_readNeed_10 : decode cX9_readNeed 10 = .ok (.iconst 3, 1) := by decide +kernel
theorem dX9_readNeed_11 : decode cX9_readNeed 11 = .ok (.aload_n 0, 1) := by decide +kernel
theorem dX9_readNeed_12 : decode cX9_readNeed 12 = .ok (.getfield 144, 3) := by decide +kernel
theorem dX9_readNeed_15 : decode cX9_readNeed 15 = .ok (.invokevirtual 155, 3) := by decide +kernel
theorem dX9_readNeed_18 : decode cX9_readNeed 18 = .ok (.aload_n 0, 1) := by decide +kernel
theorem dX9_readNeed_19 : decode cX9_readNeed 19 = .ok (.dup, 1) := by decide +kernel
theorem dX9_readNeed_20 : decode cX9_readNeed 20 = .ok (.getfield 144, 3) := by decide +kernel
theorem dX9_readNeed_23 : decode cX9_readNeed 23 = .ok (.iconst 1, 1) := by decide +kernel
theorem dX9_readNeed_24 : decode cX9_readNeed 24 = .ok (.iadd, 1) := by decide +kernel
theorem dX9_readNeed_25 : decode cX9_readNeed 25 = .ok (.putfield 144, 3) := by decide +kernel
theorem dX9_readNeed_28 : decode cX9_readNeed 28 = .ok (.aload_n 0, 1) := by decide +kernel
theorem dX9_readNeed_29 : decode cX9_readNeed 29 = .ok (.iconst 0, 1) := by decide +kernel
theorem dX9_readNeed_30 : decode cX9_readNeed 30 = .ok (.aload_n 0, 1) := by decide +kernel
theorem dX9_readNeed_31 : decode cX9_readNeed 31 = .ok (.getfield 182, 3) := by decide +kernel
theorem dX9_readNeed_34 : decode cX9_readNeed 34 = .ok (.iconst 1, 1) := by decide +kernel
theorem dX9_readNeed_35 : decode cX9_readNeed 35 = .ok (.isub, 1) := by decide +kernel
theorem dX9_readNeed_36 : decode cX9_readNeed 36 = .ok (.invokevirtual 165, 3) := by decide +kernel
theorem dX9_readNeed_39 : decode cX9_readNeed 39 = .ok (.istore_n 1, 1) := by decide +kernel
theorem dX9_readNeed_40 : decode cX9_readNeed 40 = .ok (.aload_n 0, 1) := by decide +kernel
theorem dX9_readNeed_41 : decode cX9_readNeed 41 = .ok (.iconst 0, 1) := by decide +kernel
theorem dX9_readNeed_42 : decode cX9_readNeed 42 = .ok (.aload_n 0, 1) := by decide +kernel
theorem dX9_readNeed_43 : decode cX9_readNeed 43 = .ok (.getfield 162, 3) := by decide +kernel
theorem dX9_readNeed_46 : decode cX9_readNeed 46 = .ok (.iconst 1, 1) := by decide +kernel
theorem dX9_readNeed_47 : decode cX9_readNeed 47 = .ok (.isub, 1) := by decide +kernel
theorem dX9_readNeed_48 : decode cX9_readNeed 48 = .ok (.invokevirtual 165, 3) := by decide +kernel
theorem dX9_readNeed_51 : decode cX9_readNeed 51 = .ok (.istore_n 2, 1) := by decide +kernel
theorem dX9_readNeed_52 : decode cX9_readNeed 52 = .ok (.aload_n 0, 1) := by decide +kernel
theorem dX9_readNeed_53 : decode cX9_readNeed 53 = .ok (.iconst 0, 1) := by decide +kernel
theorem dX9_readNeed_54 : decode cX9_readNeed 54 = .ok (.aload_n 0, 1) := by decide +kernel
theorem dX9_readNeed_55 : decode cX9_readNeed 55 = .ok (.getfield 188, 3) := by decide +kernel
theorem dX9_readNeed_58 : decode cX9_readNeed 58 = .ok (.iconst 1, 1) := by decide +kernel
theorem dX9_readNeed_59 : decode cX9_readNeed 59 = .ok (.isub, 1) := by decide +kernel
theorem dX9_readNeed_60 : decode cX9_readNeed 60 = .ok (.invokevirtual 165, 3) := by decide +kernel
theorem dX9_readNeed_63 : decode cX9_readNeed 63 = .ok (.istore_n 3, 1) := by decide +kernel
theorem dX9_readNeed_64 : decode cX9_readNeed 64 = .ok (.aload_n 0, 1) := by decide +kernel
theorem dX9_readNeed_65 : decode cX9_readNeed 65 = .ok (.iconst 0, 1) := by decide +kernel
theorem dX9_readNeed_66 : decode cX9_readNeed 66 = .ok (.bipush 99, 2) := by decide +kernel
theorem dX9_readNeed_68 : decode cX9_readNeed 68 = .ok (.invokevirtual 165, 3) := by decide +kernel
theorem dX9_readNeed_71 : decode cX9_readNeed 71 = .ok (.istore 4, 2) := by decide +kernel
theorem dX9_readNeed_73 : decode cX9_readNeed 73 = .ok (.aload_n 0, 1) := by decide +kernel
theorem dX9_readNeed_74 : decode cX9_readNeed 74 = .ok (.invokevirtual 169, 3) := by decide +kernel
theorem dX9_readNeed_77 : decode cX9_readNeed 77 = .ok (.aload_n 0, 1) := by decide +kernel
theorem dX9_readNeed_78 : decode cX9_readNeed 78 = .ok (.getfield 138, 3) := by decide +kernel
theorem dX9_readNeed_81 : decode cX9_readNeed 81 = .ok (.ifCond .ne 68, 3) := by decide +kernel
theorem dX9_readNeed_84 : decode cX9_readNeed 84 = .ok (.aload_n 0, 1) := by decide +kernel
theorem dX9_readNeed_85 : decode cX9_readNeed 85 = .ok (.getfield 63, 3) := by decide +kernel
theorem dX9_readNeed_88 : decode cX9_readNeed 88 = .ok (.iconst 4, 1) := by decide +kernel
theorem dX9_readNeed_89 : decode cX9_readNeed 89 = .ok (.aload_n 0, 1) := by decide +kernel
theorem dX9_readNeed_90 : decode cX9_readNeed 90 = .ok (.getfield 185, 3) := by decide +kernel
theorem dX9_readNeed_93 : decode cX9_readNeed 93 = .ok (.imul, 1) := by decide +kernel
theorem dX9_readNeed_94 : decode cX9_readNeed 94 = .ok (.iload_n 1, 1) := by decide +kernel
theorem dX9_readNeed_95 : decode cX9_readNeed 95 = .ok (.iastore, 1) := by decide +kernel
theorem dX9_readNeed_96 : decode cX9_readNeed 96 = .ok (.aload_n 0, 1) := by decide +kernel
theorem dX9_readNeed_97 : decode cX9_readNeed 97 = .ok (.getfield 63, 3) := by decide +kernel
theorem dX9_readNeed_100 : decode cX9_readNeed 100 = .ok (.iconst 4, 1) := by decide +kernel
theorem dX9_readNeed_101 : decode cX9_readNeed 101 = .ok (.aload_n 0, 1) := by decide +kernel
theorem dX9_readNeed_102 : decode cX9_readNeed 102 = .ok (.getfield 185, 3) := by decide +kernel
theorem dX9_readNeed_105 : decode cX9_readNeed 105 = .ok (.imul, 1) := by decide +kernel
theorem dX9_readNeed_106 : decode cX9_readNeed 106 = .ok (.iconst 1, 1) := by decide +kernel
theorem dX9_readNeed_107 : decode cX9_readNeed 107 = .ok (.iadd, 1) := by decide +kernel
theorem dX9_readNeed_108 : decode cX9_readNeed 108 = .ok (.iload_n 2, 1) := by decide +kernel
theorem dX9_readNeed_109 : decode cX9_readNeed 109 = .ok (.iastore, 1) := by decide +kernel
theorem dX9_readNeed_110 : decode cX9_readNeed 110 = .ok (.aload_n 0, 1) := by decide +kernel
theorem dX9_readNeed_111 : decode cX9_readNeed 111 = .ok (.getfield 63, 3) := by decide +kernel
theorem dX9_readNeed_114 : decode cX9_readNeed 114 = .ok (.iconst 4, 1) := by decide +kernel
theorem dX9_readNeed_115 : decode cX9_readNeed 115 = .ok (.aload_n 0, 1) := by decide +kernel
theorem dX9_readNeed_116 : decode cX9_readNeed 116 = .ok (.getfield 185, 3) := by decide +kernel
theorem dX9_readNeed_119 : decode cX9_readNeed 119 = .ok (.imul, 1) := by decide +kernel
theorem dX9_readNeed_120 : decode cX9_readNeed 120 = .ok (.iconst 2, 1) := by decide +kernel
theorem dX9_readNeed_121 : decode cX9_readNeed 121 = .ok (.iadd, 1) := by decide +kernel
theorem dX9_readNeed_122 : decode cX9_readNeed 122 = .ok (.iload_n 3, 1) := by decide +kernel
theorem dX9_readNeed_123 : decode cX9_readNeed 123 = .ok (.iastore, 1) := by decide +kernel
theorem dX9_readNeed_124 : decode cX9_readNeed 124 = .ok (.aload_n 0, 1) := by decide +kernel
theorem dX9_readNeed_125 : decode cX9_readNeed 125 = .ok (.getfield 63, 3) := by decide +kernel
theorem dX9_readNeed_128 : decode cX9_readNeed 128 = .ok (.iconst 4, 1) := by decide +kernel
theorem dX9_readNeed_129 : decode cX9_readNeed 129 = .ok (.aload_n 0, 1) := by decide +kernel
theorem dX9_readNeed_130 : decode cX9_readNeed 130 = .ok (.getfield 185, 3) := by decide +kernel
theorem dX9_readNeed_133 : decode cX9_readNeed 133 = .ok (.imul, 1) := by decide +kernel
theorem dX9_readNeed_134 : decode cX9_readNeed 134 = .ok (.iconst 3, 1) := by decide +kernel
theorem dX9_readNeed_135 : decode cX9_readNeed 135 = .ok (.iadd, 1) := by decide +kernel
theorem dX9_readNeed_136 : decode cX9_readNeed 136 = .ok (.iload 4, 2) := by decide +kernel
theorem dX9_readNeed_138 : decode cX9_readNeed 138 = .ok (.iastore, 1) := by decide +kernel
theorem dX9_readNeed_139 : decode cX9_readNeed 139 = .ok (.aload_n 0, 1) := by decide +kernel
theorem dX9_readNeed_140 : decode cX9_readNeed 140 = .ok (.dup, 1) := by decide +kernel
theorem dX9_readNeed_141 : decode cX9_readNeed 141 = .ok (.getfield 185, 3) := by decide +kernel
theorem dX9_readNeed_144 : decode cX9_readNeed 144 = .ok (.iconst 1, 1) := by decide +kernel
theorem dX9_readNeed_145 : decode cX9_readNeed 145 = .ok (.iadd, 1) := by decide +kernel
theorem dX9_readNeed_146 : decode cX9_readNeed 146 = .ok (.putfield 185, 3) := by decide +kernel
theorem dX9_readNeed_149 : decode cX9_readNeed 149 = .ok (.return_, 1) := by decide +kernel
theorem dX9_readYear_0 : decode cX9_readYear 0 = .ok (.aload_n 0, 1) := by decide +kernel
theorem dX9_readYear_1 : decode cX9_readYear 1 = .ok (.dup, 1) := by decide +kernel
theorem dX9_readYear_2 : decode cX9_readYear 2 = .ok (.getfield 144, 3) := by decide +kernel
theorem dX9_readYear_5 : decode cX9_readYear 5 = .ok (.iconst 1, 1) := by decide +kernel
theorem dX9_readYear_6 : decode cX9_readYear 6 = .ok (.iadd, 1) := by decide +kernel
theorem dX9_readYear_7 : decode cX9_readYear 7 = .ok (.putfield 144, 3) := by decide +kernel
theorem dX9_readYear_10 : decode cX9_readYear 10 = .ok (.aload_n 0, 1) := by decide +kernel
theorem dX9_readYear_11 : decode cX9_readYear 11 = .ok (.aload_n 0, 1) := by decide +kernel
theorem dX9_readYear_12 : decode cX9_readYear 12 = .ok (.iconst 1, 1) := by decide +kernel
theorem dX9_readYear_13 : decode cX9_readYear 13 = .ok (.bipush 99, 2) := by decide +kernel
theorem dX9_readYear_15 : decode cX9_readYear 15 = .ok (.invokevirtual 165, 3) := by decide +kernel
theorem dX9_readYear_18 : decode cX9_readYear 18 = .ok (.putfield 188, 3) := by decide +kernel
theorem dX9_readYear_21 : decode cX9_readYear 21 = .ok (.aload_n 0, 1) := by decide +kernel
theorem dX9_readYear_22 : decode cX9_readYear 22 = .ok (.invokevirtual 169, 3) := by decide +kernel
theorem dX9_readYear_25 : decode cX9_readYear 25 = .ok (.return_, 1) := by decide +kernel
theorem dX9_readClause_0 : decode cX9_readClause 0 = .ok (.aload_n 0, 1) := by decide +kernel
theorem dX9_readClause_1 : decode cX9_readClause 1 = .ok (.getfield 188, 3) := by decide +kernel
theorem dX9_readClause_4 : decode cX9_readClause 4 = .ok (.ifCond .ne 19, 3) := by decide +kernel
theorem dX9_readClause_7 : decode cX9_readClause 7 = .ok (.iload_n 1, 1) := by decide +kernel
theorem dX9_readClause_8 : decode cX9_readClause 8 = .ok (.bipush 121, 2) := by decide +kernel
theorem dX9_readClause_10 : decode cX9_readClause 10 = .ok (.if_icmp .eq 13, 3) := by decide +kernel
theorem dX9_readClause_13 : decode cX9_readClause 13 = .ok (.aload_n 0, 1) := by decide +kernel
theorem dX9_readClause_14 : decode cX9_readClause 14 = .ok (.iconst 1, 1) := by decide +kernel
theorem dX9_readClause_15 : decode cX9_readClause 15 = .ok (.aload_n 0, 1) := by decide +kernel
theorem dX9_readClause_16 : decode cX9_readClause 16 = .ok (.getfield 144, 3) := by decide +kernel
theorem dX9_readClause_19 : decode cX9_readClause 19 = .ok (.invokevirtual 155, 3) := by decide +kernel
theorem dX9_readClause_22 : decode cX9_readClause 22 = .ok (.return_, 1) := by decide +kernel
theorem dX9_readClause_23 : decode cX9_readClause 23 = .ok (.iload_n 1, 1) := by decide +kernel
theorem dX9_readClause_24 : decode cX9_readClause 24 = .ok (.lookupswitch 118 #[(97, 90), (110, 111), (111, 97), (112, 104), (119, 83), (121, 60)], 60) := by decide +kernel
theorem dX9_readClause_84 : decode cX9_readClause 84 = .ok (.aload_n 0, 1) := by decide +kernel
theorem dX9_readClause_85 : decode cX9_readClause 85 = .ok (.getfield 188, 3) := by decide +kernel
theorem dX9_readClause_88 : decode cX9_readClause 88 = .ok (.ifCond .le 12, 3) := by decide +kernel
theorem dX9_readClause_91 : decode cX9_readClause 91 = .ok (.aload_n 0, 1) := by decide +kernel
theorem dX9_readClause_92 : decode cX9_readClause 92 = .ok (.iconst 3, 1) := by decide +kernel
theorem dX9_readClause_93 : decode cX9_readClause 93 = .ok (.aload_n 0, 1) := by decide +kernel
theorem dX9_readClause_94 : decode cX9_readClause 94 = .ok (.getfield 144, 3) := by decide +kernel
theorem dX9_readClause_97 : decode cX9_readClause 97 = .ok (.invokevirtual 155, 3) := by decide +kernel
theorem dX9_readClause_100 : decode cX9_readClause 100 = .ok (.aload_n 0, 1) := by decide +kernel
theorem dX9_readClause_101 : decode cX9_readClause 101 = .ok (.invokevirtual 191, 3) := by decide +kernel
theorem dX9_readClause_104 : decode cX9_readClause 104 = .ok (.goto 47, 3) := by decide +kernel
theorem dX9_readClause_107 : decode cX9_readClause 107 = .ok (.aload_n 0, 1) := by decide +kernel
theorem dX9_readClause_108 : decode cX9_readClause 108 = .ok (.invokevirtual 194, 3) := by decide +kernel
theorem dX9_readClause_111 : decode cX9_readClause 111 = .ok (.goto 40, 3) := by decide +kernel
theorem dX9_readClause_114 : decode cX9_readClause 114 = .ok (.aload_n 0, 1) := by decide +kernel
theorem dX9_readClause_115 : decode cX9_readClause 115 = .ok (.invokevirtual 197, 3) := by decide +kernel
theorem dX9_readClause_118 : decode cX9_readClause 118 = .ok (.goto 33, 3) := by decide +kernel
theorem dX9_readClause_121 : decode cX9_readClause 121 = .ok (.aload_n 0, 1) := by decide +kernel
theorem dX9_readClause_122 : decode cX9_readClause 122 = .ok (.invokevirtual 200, 3) := by decide +kernel
theorem dX9_readClause_125 : decode cX9_readClause 125 = .ok (.goto 26, 3) := by decide +kernel
theorem dX9_readClause_128 : decode cX9_readClause 128 = .ok (.aload_n 0, 1) := by decide +kernel
theorem dX9_readClause_129 : decode cX9_readClause 129 = .ok (.invokevirtual 203, 3) := by decide +kernel
theorem dX9_readClause_132 : decode cX9_readClause 132 = .ok (.goto 19, 3) := by decide +kernel
theorem dX9_readClause_135 : decode cX9_readClause 135 = .ok (.aload_n 0, 1) := by decide +kernel
theorem dX9_readClause_136 : decode cX9_readClause 136 = .ok (.invokevirtual 206, 3) := by decide +kernel
theorem dX9_readClause_139 : decode cX9_readClause 139 = .ok (.goto 12, 3) := by decide +kernel
theorem dX9_readClause_142 : decode cX9_readClause 142 = .ok (.aload_n 0, 1) := by decide +kernel
theorem dX9_readClause_143 : decode cX9_readClause 143 = .ok (.iconst 1, 1) := by decide +kernel
theorem dX9_readClause_144 : decode cX9_readClause 144 = .ok (.aload_n 0, 1) := by decide +kernel
theorem dX9_readClause_145 : decode cX9_readClause 145 = .ok (.getfield 144, 3) := by decide +kernel
theorem dX9_readClause_148 : decode cX9_readClause 148 = .ok (.invokevirtual 155, 3) := by decide +kernel
theorem dX9_readClause_151 : decode cX9_readClause 151 = .ok (.return_, 1) := by decide +kernel
theorem dX9_readAll_0 : decode cX9_readAll 0 = .ok (.aload_n 0, 1) := by decide +kernel
theorem dX9_readAll_1 : decode cX9_readAll 1 = .ok (.iconst 0, 1) := by decide +kernel
theorem dX9_readAll_2 : decode cX9_readAll 2 = .ok (.putfield 144, 3) := by decide +kernel
theorem dX9_readAll_5 : decode cX9_readAll 5 = .ok (.aload_n 0, 1) := by decide +kernel
theorem dX9_readAll_6 : decode cX9_readAll 6 = .ok (.iconst 0, 1) := by decide +kernel
theorem dX9_readAll_7 : decode cX9_readAll 7 = .ok (.putfield 138, 3) := by decide +kernel
theorem dX9_readAll_10 : decode cX9_readAll 10 = .ok (.aload_n 0, 1) := by decide +kernel
theorem dX9_readAll_11 : decode cX9_readAll 11 = .ok (.iconst (-1), 1) := by decide +kernel
theorem dX9_readAll_12 : decode cX9_readAll 12 = .ok (.putfield 141, 3) := by decide +kernel
theorem dX9_readAll_15 : decode cX9_readAll 15 = .ok (.aload_n 0, 1) := by decide +kernel
theorem dX9_readAll_16 : decode cX9_readAll 16 = .ok (.iconst 0, 1) := by decide +kernel
theorem dX9_readAll_17 : decode cX9_readAll 17 = .ok (.putfield 188, 3) := by decide +kernel
theorem dX9_readAll_20 : decode cX9_readAll 20 = .ok (.aload_n 0, 1) := by decide +kernel
theorem dX9_readAll_21 : decode cX9_readAll 21 = .ok (.iconst 0, 1) := by decide +kernel
theorem dX9_readAll_22 : decode cX9_readAll 22 = .ok (.putfield 162, 3) := by decide +kernel
theorem dX9_readAll_25 : decode cX9_readAll 25 = .ok (.aload_n 0, 1) := by decide +kernel
theorem dX9_readAll_26 : decode cX9_readAll 26 = .ok (.iconst 0, 1) := by decide +kernel
theorem dX9_readAll_27 : decode cX9_readAll 27 = .ok (.putfield 182, 3) := by decide +kernel
theorem dX9_readAll_30 : decode cX9_readAll 30 = .ok (.aload_n 0, 1) := by decide +kernel
theorem dX9_readAll_31 : decode cX9_readAll 31 = .ok (.iconst 0, 1) := by decide +kernel
theorem dX9_readAll_32 : decode cX9_readAll 32 = .ok (.putfield 185, 3) := by decide +kernel
theorem dX9_readAll_35 : decode cX9_readAll 35 = .ok (.aload_n 0, 1) := by decide +kernel
theorem dX9_readAll_36 : decode cX9_readAll 36 = .ok (.iconst 0, 1) := by decide +kernel
theorem dX9_readAll_37 : decode cX9_readAll 37 = .ok (.putfield 172, 3) := by decide +kernel
theorem dX9_readAll_40 : decode cX9_readAll 40 = .ok (.iconst 0, 1) := by decide +kernel
theorem dX9_readAll_41 : decode cX9_readAll 41 = .ok (.istore_n 1, 1) := by decide +kernel
theorem dX9_readAll_42 : decode cX9_readAll 42 = .ok (.iload_n 1, 1) := by decide +kernel
theorem dX9_readAll_43 : decode cX9_readAll 43 = .ok (.bipush 16, 2) := by decide +kernel
theorem dX9_readAll_45 : decode cX9_readAll 45 = .ok (.if_icmp .ge 16, 3) := by decide +kernel
theorem dX9_readAll_48 : decode cX9_readAll 48 = .ok (.aload_n 0, 1) := by decide +kernel
theorem dX9_readAll_49 : decode cX9_readAll 49 = .ok (.getfield 54, 3) := by decide +kernel
theorem dX9_readAll_52 : decode cX9_readAll 52 = .ok (.iload_n 1, 1) := by decide +kernel
theorem dX9_readAll_53 : decode cX9_readAll 53 = .ok (.iconst 0, 1) := by decide +kernel
theorem dX9_readAll_54 : decode cX9_readAll 54 = .ok (.iastore, 1) := by decide +kernel
theorem dX9_readAll_55 : decode cX9_readAll 55 = .ok (.iinc 1 1, 3) := by decide +kernel
theorem dX9_readAll_58 : decode cX9_readAll 58 = .ok (.goto (-16), 3) := by decide +kernel
theorem dX9_readAll_61 : decode cX9_readAll 61 = .ok (.iconst 0, 1) := by decide +kernel
theorem dX9_readAll_62 : decode cX9_readAll 62 = .ok (.istore_n 1, 1) := by decide +kernel
theorem dX9_readAll_63 : decode cX9_readAll 63 = .ok (.iload_n 1, 1) := by decide +kernel
theorem dX9_readAll_64 : decode cX9_readAll 64 = .ok (.bipush 8, 2) := by decide +kernel
theorem dX9_readAll_66 : decode cX9_readAll 66 = .ok (.if_icmp .ge 16, 3) := by decide +kernel
theorem dX9_readAll_69 : decode cX9_readAll 69 = .ok (.aload_n 0, 1) := by decide +kernel
theorem dX9_readAll_70 : decode cX9_readAll 70 = .ok (.getfield 57, 3) := by decide +kernel
theorem dX9_readAll_73 : decode cX9_readAll 73 = .ok (.iload_n 1, 1) := by decide +kernel
theorem dX9_readAll_74 : decode cX9_readAll 74 = .ok (.iconst 0, 1) := by decide +kernel
theorem dX9_readAll_75 : decode cX9_readAll 75 = .ok (.bastore, 1) := by decide +kernel
theorem dX9_readAll_76 : decode cX9_readAll 76 = .ok (.iinc 1 1, 3) := by decide +kernel
theorem dX9_readAll_79 : decode cX9_readAll 79 = .ok (.goto (-16), 3) := by decide +kernel
theorem dX9_readAll_82 : decode cX9_readAll 82 = .ok (.aload_n 0, 1) := by decide +kernel
theorem dX9_readAll_83 : decode cX9_readAll 83 = .ok (.invokevirtual 147, 3) := by decide +kernel
theorem dX9_readAll_86 : decode cX9_readAll 86 = .ok (.istore_n 1, 1) := by decide +kernel
theorem dX9_readAll_87 : decode cX9_readAll 87 = .ok (.iload_n 1, 1) := by decide +kernel
theorem dX9_readAll_88 : decode cX9_readAll 88 = .ok (.iconst (-1), 1) := by decide +kernel
theorem dX9_readAll_89 : decode cX9_readAll 89 = .ok (.if_icmp .eq 16, 3) := by decide +kernel
theorem dX9_readAll_92 : decode cX9_readAll 92 = .ok (.aload_n 0, 1) := by decide +kernel
theorem dX9_readAll_93 : decode cX9_readAll 93 = .ok (.iload_n 1, 1) := by decide +kernel
theorem dX9_readAll_94 : decode cX9_readAll 94 = .ok (.invokevirtual 209, 3) := by decide +kernel
theorem dX9_readAll_97 : decode cX9_readAll 97 = .ok (.aload_n 0, 1) := by decide +kernel
theorem dX9_readAll_98 : decode cX9_readAll 98 = .ok (.invokevirtual 147, 3) := by decide +kernel
theorem dX9_readAll_101 : decode cX9_readAll 101 = .ok (.istore_n 1, 1) := by decide +kernel
theorem dX9_readAll_102 : decode cX9_readAll 102 = .ok (.goto (-15), 3) := by decide +kernel
theorem dX9_readAll_105 : decode cX9_readAll 105 = .ok (.return_, 1) := by decide +kernel
theorem dX9_town_0 : decode cX9_town 0 = .ok (.aload_n 0, 1) := by decide +kernel
theorem dX9_town_1 : decode cX9_town 1 = .ok (.invokevirtual 213, 3) := by decide +kernel
theorem dX9_town_4 : decode cX9_town 4 = .ok (.aload_n 0, 1) := by decide +kernel
theorem dX9_town_5 : decode cX9_town 5 = .ok (.iconst 0, 1) := by decide +kernel
theorem dX9_town_6 : decode cX9_town 6 = .ok (.putfield 134, 3) := by decide +kernel
theorem dX9_town_9 : decode cX9_town 9 = .ok (.aload_n 0, 1) := by decide +kernel
theorem dX9_town_10 : decode cX9_town 10 = .ok (.aload_n 0, 1) := by decide +kernel
theorem dX9_town_11 : decode cX9_town 11 = .ok (.getfield 138, 3) := by decide +kernel
theorem dX9_town_14 : decode cX9_town 14 = .ok (.ifCond .ne 7, 3) := by decide +kernel
theorem dX9_town_17 : decode cX9_town 17 = .ok (.iconst (-1), 1) := by decide +kernel
theorem dX9_town_18 : decode cX9_town 18 = .ok (.goto 7, 3) := by decide +kernel
theorem dX9_town_21 : decode cX9_town 21 = .ok (.aload_n 0, 1) := by decide +kernel
theorem dX9_town_22 : decode cX9_town 22 = .ok (.getfield 141, 3) := by decide +kernel
theorem dX9_town_25 : decode cX9_town 25 = .ok (.putfield 41, 3) := by decide +kernel
theorem dX9_town_28 : decode cX9_town 28 = .ok (.aload_n 0, 1) := by decide +kernel
theorem dX9_town_29 : decode cX9_town 29 = .ok (.getfield 138, 3) := by decide +kernel
theorem dX9_town_32 : decode cX9_town 32 = .ok (.ifCond .eq 11, 3) := by decide +kernel
theorem dX9_town_35 : decode cX9_town 35 = .ok (.bipush (-10), 2) := by decide +kernel
theorem dX9_town_37 : decode cX9_town 37 = .ok (.aload_n 0, 1) := by decide +kernel
theorem dX9_town_38 : decode cX9_town 38 = .ok (.getfield 138, 3) := by decide +kernel
theorem dX9_town_41 : decode cX9_town 41 = .ok (.isub, 1) := by decide +kernel
theorem dX9_town_42 : decode cX9_town 42 = .ok (.ireturn, 1) := by decide +kernel
theorem dX9_town_43 : decode cX9_town 43 = .ok (.aload_n 0, 1) := by decide +kernel
theorem dX9_town_44 : decode cX9_town 44 = .ok (.aload_n 0, 1) := by decide +kernel
theorem dX9_town_45 : decode cX9_town 45 = .ok (.getfield 188, 3) := by decide +kernel
theorem dX9_town_48 : decode cX9_town 48 = .ok (.putfield 216, 3) := by decide +kernel
theorem dX9_town_51 : decode cX9_town 51 = .ok (.aload_n 0, 1) := by decide +kernel
theorem dX9_town_52 : decode cX9_town 52 = .ok (.aload_n 0, 1) := by decide +kernel
theorem dX9_town_53 : decode cX9_town 53 = .ok (.getfield 162, 3) := by decide +kernel
theorem dX9_town_56 : decode cX9_town 56 = .ok (.putfield 117, 3) := by decide +kernel
theorem dX9_town_59 : decode cX9_town 59 = .ok (.aload_n 0, 1) := by decide +kernel
theorem dX9_town_60 : decode cX9_town 60 = .ok (.aload_n 0, 1) := by decide +kernel
theorem dX9_town_61 : decode cX9_town 61 = .ok (.getfield 182, 3) := by decide +kernel
theorem dX9_town_64 : decode cX9_town 64 = .ok (.putfield 124, 3) := by decide +kernel
theorem dX9_town_67 : decode cX9_town 67 = .ok (.aload_n 0, 1) := by decide +kernel
theorem dX9_town_68 : decode cX9_town 68 = .ok (.aload_n 0, 1) := by decide +kernel
theorem dX9_town_69 : decode cX9_town 69 = .ok (.getfield 185, 3) := by decide +kernel
theorem dX9_town_72 : decode cX9_town 72 = .ok (.putfield 127, 3) := by decide +kernel
theorem dX9_town_75 : decode cX9_town 75 = .ok (.iconst 0, 1) := by decide +kernel
theorem dX9_town_76 : decode cX9_town 76 = .ok (.istore_n 1, 1) := by decide +kernel
theorem dX9_town_77 : decode cX9_town 77 = .ok (.iload_n 1, 1) := by decide +kernel
theorem dX9_town_78 : decode cX9_town 78 = .ok (.bipush 69, 2) := by decide +kernel
theorem dX9_town_80 : decode cX9_town 80 = .ok (.if_icmp .ge 16, 3) := by decide +kernel
theorem dX9_town_83 : decode cX9_town 83 = .ok (.aload_n 0, 1) := by decide +kernel
theorem dX9_town_84 : decode cX9_town 84 = .ok (.getfield 7, 3) := by decide +kernel
theorem dX9_town_87 : decode cX9_town 87 = .ok (.iload_n 1, 1) := by decide +kernel
theorem dX9_town_88 : decode cX9_town 88 = .ok (.iconst 0, 1) := by decide +kernel
theorem dX9_town_89 : decode cX9_town 89 = .ok (.iastore, 1) := by decide +kernel
theorem dX9_town_90 : decode cX9_town 90 = .ok (.iinc 1 1, 3) := by decide +kernel
theorem dX9_town_93 : decode cX9_town 93 = .ok (.goto (-16), 3) := by decide +kernel
theorem dX9_town_96 : decode cX9_town 96 = .ok (.iconst 0, 1) := by decide +kernel
theorem dX9_town_97 : decode cX9_town 97 = .ok (.istore_n 1, 1) := by decide +kernel
theorem dX9_town_98 : decode cX9_town 98 = .ok (.iload_n 1, 1) := by decide +kernel
theorem dX9_town_99 : decode cX9_town 99 = .ok (.bipush 8, 2) := by decide +kernel
theorem dX9_town_101 : decode cX9_town 101 = .ok (.if_icmp .ge 88, 3) := by decide +kernel
theorem dX9_town_104 : decode cX9_town 104 = .ok (.aload_n 0, 1) := by decide +kernel
theorem dX9_town_105 : decode cX9_town 105 = .ok (.getfield 7, 3) := by decide +kernel
theorem dX9_town_108 : decode cX9_town 108 = .ok (.iconst 5, 1) := by decide +kernel
theorem dX9_town_109 : decode cX9_town 109 = .ok (.iload_n 1, 1) := by decide +kernel
theorem dX9_town_110 : decode cX9_town 110 = .ok (.iadd, 1) := by decide +kernel
theorem dX9_town_111 : decode cX9_town 111 = .ok (.iload_n 1, 1) := by decide +kernel
theorem dX9_town_112 : decode cX9_town 112 = .ok (.aload_n 0, 1) := by decide +kernel
theorem dX9_town_113 : decode cX9_town 113 = .ok (.getfield 117, 3) := by decide +kernel
theorem dX9_town_116 : decode cX9_town 116 = .ok (.if_icmp .ge 12, 3) := by decide +kernel
theorem dX9_town_119 : decode cX9_town 119 = .ok (.aload_n 0, 1) := by decide +kernel
theorem dX9_town_120 : decode cX9_town 120 = .ok (.getfield 45, 3) := by decide +kernel
theorem dX9_town_123 : decode cX9_town 123 = .ok (.iload_n 1, 1) := by decide +kernel
theorem dX9_town_124 : decode cX9_town 124 = .ok (.iaload, 1) := by decide +kernel
theorem dX9_town_125 : decode cX9_town 125 = .ok (.goto 4, 3) := by decide +kernel
theorem dX9_town_128 : decode cX9_town 128 = .ok (.iconst 0, 1) := by decide +kernel
theorem dX9_town_129 : decode cX9_town 129 = .ok (.iastore, 1) := by decide +kernel
theorem dX9_town_130 : decode cX9_town 130 = .ok (.aload_n 0, 1) := by decide +kernel
theorem dX9_town_131 : decode cX9_town 131 = .ok (.getfield 7, 3) := by decide +kernel
theorem dX9_town_134 : decode cX9_town 134 = .ok (.bipush 13, 2) := by decide +kernel
theorem dX9_town_136 : decode cX9_town 136 = .ok (.iload_n 1, 1) := by decide +kernel
theorem dX9_town_137 : decode cX9_town 137 = .ok (.iadd, 1) := by decide +kernel
theorem dX9_town_138 : decode cX9_town 138 = .ok (.aload_n 0, 1) := by decide +kernel
theorem dX9_town_139 : decode cX9_town 139 = .ok (.getfield 7, 3) := by decide +kernel
theorem dX9_town_142 : decode cX9_town 142 = .ok (.iconst 5, 1) := by decide +kernel
theorem dX9_town_143 : decode cX9_town 143 = .ok (.iload_n 1, 1) := by decide +kernel
theorem dX9_town_144 : decode cX9_town 144 = .ok (.iadd, 1) := by decide +kernel
theorem dX9_town_145 : decode cX9_town 145 = .ok (.iaload, 1) := by decide +kernel
theorem dX9_town_146 : decode cX9_town 146 = .ok (.iastore, 1) := by decide +kernel
theorem dX9_town_147 : decode cX9_town 147 = .ok (.aload_n 0, 1) := by decide +kernel
theorem dX9_town_148 : decode cX9_town 148 = .ok (.getfield 19, 3) := by decide +kernel
theorem dX9_town_151 : decode cX9_town 151 = .ok (.iload_n 1, 1) := by decide +kernel
theorem dX9_town_152 : decode cX9_town 152 = .ok (.aload_n 0, 1) := by decide +kernel
theorem dX9_town_153 : decode cX9_town 153 = .ok (.getfield 48, 3) := by decide +kernel
theorem dX9_town_156 : decode cX9_town 156 = .ok (.iload_n 1, 1) := by decide +kernel
theorem dX9_town_157 : decode cX9_town 157 = .ok (.iaload, 1) := by decide +kernel
theorem dX9_town_158 : decode cX9_town 158 = .ok (.iastore, 1) := by decide +kernel
theorem dX9_town_159 : decode cX9_town 159 = .ok (.aload_n 0, 1) := by decide +kernel
theorem dX9_town_160 : decode cX9_town 160 = .ok (.getfield 22, 3) := by decide +kernel
theorem dX9_town_163 : decode cX9_town 163 = .ok (.iload_n 1, 1) := by decide +kernel
theorem dX9_town_164 : decode cX9_town 164 = .ok (.aload_n 0, 1) := by decide +kernel
theorem dX9_town_165 : decode cX9_town 165 = .ok (.getfield 51, 3) := by decide +kernel
theorem dX9_town_168 : decode cX9_town 168 = .ok (.iload_n 1, 1) := by decide +kernel
theorem dX9_town_169 : decode cX9_town 169 = .ok (.iaload, 1) := by decide +kernel
theorem dX9_town_170 : decode cX9_town 170 = .ok (.iastore, 1) := by decide +kernel
theorem dX9_town_171 : decode cX9_town 171 = .ok (.aload_n 0, 1) := by decide +kernel
theorem dX9_town_172 : decode cX9_town 172 = .ok (.getfield 28, 3) := by decide +kernel
theorem dX9_town_175 : decode cX9_town 175 = .ok (.iload_n 1, 1) := by decide +kernel
theorem dX9_town_176 : decode cX9_town 176 = .ok (.aload_n 0, 1) := by decide +kernel
theorem dX9_town_177 : decode cX9_town 177 = .ok (.getfield 57, 3) := by decide +kernel
theorem dX9_town_180 : decode cX9_town 180 = .ok (.iload_n 1, 1) := by decide +kernel
theorem dX9_town_181 : decode cX9_town 181 = .ok (.baload, 1) := by decide +kernel
theorem dX9_town_182 : decode cX9_town 182 = .ok (.bastore, 1) := by decide +kernel
theorem dX9_town_183 : decode cX9_town 183 = .ok (.iinc 1 1, 3) := by decide +kernel
theorem dX9_town_186 : decode cX9_town 186 = .ok (.goto (-88), 3) := by decide +kernel
theorem dX9_town_189 : decode cX9_town 189 = .ok (.iconst 0, 1) := by decide +kernel
theorem dX9_town_190 : decode cX9_town 190 = .ok (.istore_n 1, 1) := by decide +kernel
theorem dX9_town_191 : decode cX9_town 191 = .ok (.iload_n 1, 1) := by decide +kernel
theorem dX9_town_192 : decode cX9_town 192 = .ok (.bipush 16, 2) := by decide +kernel
theorem dX9_town_194 : decode cX9_town 194 = .ok (.if_icmp .ge 21, 3) := by decide +kernel
theorem dX9_town_197 : decode cX9_town 197 = .ok (.aload_n 0, 1) := by decide +kernel
theorem dX9_town_198 : decode cX9_town 198 = .ok (.getfield 25, 3) := by decide +kernel
theorem dX9_town_201 : decode cX9_town 201 = .ok (.iload_n 1, 1) := by decide +kernel
theorem dX9_town_202 : decode cX9_town 202 = .ok (.aload_n 0, 1) := by decide +kernel
theorem dX9_town_203 : decode cX9_town 203 = .ok (.getfield 54, 3) := by decide +kernel
theorem dX9_town_206 : decode cX9_town 206 = .ok (.iload_n 1, 1) := by decide +kernel
theorem dX9_town_207 : decode cX9_town 207 = .ok (.iaload, 1) := by decide +kernel
theorem dX9_town_208 : decode cX9_town 208 = .ok (.iastore, 1) := by decide +kernel
theorem dX9_town_209 : decode cX9_town 209 = .ok (.iinc 1 1, 3) := by decide +kernel
theorem dX9_town_212 : decode cX9_town 212 = .ok (.goto (-21), 3) := by decide +kernel
theorem dX9_town_215 : decode cX9_town 215 = .ok (.iconst 0, 1) := by decide +kernel
theorem dX9_town_216 : decode cX9_town 216 = .ok (.istore_n 1, 1) := by decide +kernel
theorem dX9_town_217 : decode cX9_town 217 = .ok (.iload_n 1, 1) := by decide +kernel
theorem dX9_town_218 : decode cX9_town 218 = .ok (.iconst 5, 1) := by decide +kernel
theorem dX9_town_219 : decode cX9_town 219 = .ok (.if_icmp .ge 21, 3) := by decide +kernel
theorem dX9_town_222 : decode cX9_town 222 = .ok (.aload_n 0, 1) := by decide +kernel
theorem dX9_town_223 : decode cX9_town 223 = .ok (.getfield 32, 3) := by decide +kernel
theorem dX9_town_226 : decode cX9_town 226 = .ok (.iload_n 1, 1) := by decide +kernel
theorem dX9_town_227 : decode cX9_town 227 = .ok (.aload_n 0, 1) := by decide +kernel
theorem dX9_town_228 : decode cX9_town 228 = .ok (.getfield 60, 3) := by decide +kernel
theorem dX9_town_231 : decode cX9_town 231 = .ok (.iload_n 1, 1) := by decide +kernel
theorem dX9_town_232 : decode cX9_town 232 = .ok (.baload, 1) := by decide +kernel
theorem dX9_town_233 : decode cX9_town 233 = .ok (.bastore, 1) := by decide +kernel
theorem dX9_town_234 : decode cX9_town 234 = .ok (.iinc 1 1, 3) := by decide +kernel
theorem dX9_town_237 : decode cX9_town 237 = .ok (.goto (-20), 3) := by decide +kernel
theorem dX9_town_240 : decode cX9_town 240 = .ok (.iconst 0, 1) := by decide +kernel
theorem dX9_town_241 : decode cX9_town 241 = .ok (.istore_n 1, 1) := by decide +kernel
theorem dX9_town_242 : decode cX9_town 242 = .ok (.iload_n 1, 1) := by decide +kernel
theorem dX9_town_243 : decode cX9_town 243 = .ok (.bipush 32, 2) := by decide +kernel
theorem dX9_town_245 : decode cX9_town 245 = .ok (.if_icmp .ge 21, 3) := by decide +kernel
theorem dX9_town_248 : decode cX9_town 248 = .ok (.aload_n 0, 1) := by decide +kernel
theorem dX9_town_249 : decode cX9_town 249 = .ok (.getfield 35, 3) := by decide +kernel
theorem dX9_town_252 : decode cX9_town 252 = .ok (.iload_n 1, 1) := by decide +kernel
theorem dX9_town_253 : decode cX9_town 253 = .ok (.aload_n 0, 1) := by decide +kernel
theorem dX9_town_254 : decode cX9_town 254 = .ok (.getfield 63, 3) := by decide +kernel
theorem dX9_town_257 : decode cX9_town 257 = .ok (.iload_n 1, 1) := by decide +kernel
theorem dX9_town_258 : decode cX9_town 258 = .ok (.iaload, 1) := by decide +kernel
theorem dX9_town_259 : decode cX9_town 259 = .ok (.iastore, 1) := by decide +kernel
theorem dX9_town_260 : decode cX9_town 260 = .ok (.iinc 1 1, 3) := by decide +kernel
theorem dX9_town_263 : decode cX9_town 263 = .ok (.goto (-21), 3) := by decide +kernel
theorem dX9_town_266 : decode cX9_town 266 = .ok (.aload_n 0, 1) := by decide +kernel
theorem dX9_town_267 : decode cX9_town 267 = .ok (.iconst 0, 1) := by decide +kernel
theorem dX9_town_268 : decode cX9_town 268 = .ok (.putfield 219, 3) := by decide +kernel
theorem dX9_town_271 : decode cX9_town 271 = .ok (.aload_n 0, 1) := by decide +kernel
theorem dX9_town_272 : decode cX9_town 272 = .ok (.iconst 0, 1) := by decide +kernel
theorem dX9_town_273 : decode cX9_town 273 = .ok (.putfield 222, 3) := by decide +kernel
theorem dX9_town_276 : decode cX9_town 276 = .ok (.aload_n 0, 1) := by decide +kernel
theorem dX9_town_277 : decode cX9_town 277 = .ok (.iconst 0, 1) := by decide +kernel
theorem dX9_town_278 : decode cX9_town 278 = .ok (.putfield 225, 3) := by decide +kernel
theorem dX9_town_281 : decode cX9_town 281 = .ok (.aload_n 0, 1) := by decide +kernel
theorem dX9_town_282 : decode cX9_town 282 = .ok (.getfield 108, 3) := by decide +kernel
theorem dX9_town_285 : decode cX9_town 285 = .ok (.iconst 0, 1) := by decide +kernel
theorem dX9_town_286 : decode cX9_town 286 = .ok (.iconst 0, 1) := by decide +kernel
theorem dX9_town_287 : decode cX9_town 287 = .ok (.bastore, 1) := by decide +kernel
theorem dX9_town_288 : decode cX9_town 288 = .ok (.aload_n 0, 1) := by decide +kernel
theorem dX9_town_289 : decode cX9_town 289 = .ok (.getfield 108, 3) := by decide +kernel
theorem dX9_town_292 : decode cX9_town 292 = .ok (.iconst 1, 1) := by decide +kernel
theorem dX9_town_293 : decode cX9_town 293 = .ok (.iconst 0, 1) := by decide +kernel
theorem dX9_town_294 : decode cX9_town 294 = .ok (.bastore, 1) := by decide +kernel
theorem dX9_town_295 : decode cX9_town 295 = .ok (.aload_n 0, 1) := by decide +kernel
theorem dX9_town_296 : decode cX9_town 296 = .ok (.getfield 117, 3) := by decide +kernel
theorem dX9_town_299 : decode cX9_town 299 = .ok (.ireturn, 1) := by decide +kernel
theorem dX9_fault_0 : decode cX9_fault 0 = .ok (.aload_n 0, 1) := by decide +kernel
theorem dX9_fault_1 : decode cX9_fault 1 = .ok (.getfield 41, 3) := by decide +kernel
theorem dX9_fault_4 : decode cX9_fault 4 = .ok (.ireturn, 1) := by decide +kernel
theorem dX9_dayNow_0 : decode cX9_dayNow 0 = .ok (.aload_n 0, 1) := by decide +kernel
theorem dX9_dayNow_1 : decode cX9_dayNow 1 = .ok (.getfield 216, 3) := by decide +kernel
theorem dX9_dayNow_4 : decode cX9_dayNow 4 = .ok (.ifCond .ne 7, 3) := by decide +kernel
theorem dX9_dayNow_7 : decode cX9_dayNow 7 = .ok (.iconst 0, 1) := by decide +kernel
theorem dX9_dayNow_8 : decode cX9_dayNow 8 = .ok (.goto 14, 3) := by decide +kernel
theorem dX9_dayNow_11 : decode cX9_dayNow 11 = .ok (.aload_n 0, 1) := by decide +kernel
theorem dX9_dayNow_12 : decode cX9_dayNow 12 = .ok (.getfield 7, 3) := by decide +kernel
theorem dX9_dayNow_15 : decode cX9_dayNow 15 = .ok (.iconst 0, 1) := by decide +kernel
theorem dX9_dayNow_16 : decode cX9_dayNow 16 = .ok (.iaload, 1) := by decide +kernel
theorem dX9_dayNow_17 : decode cX9_dayNow 17 = .ok (.aload_n 0, 1) := by decide +kernel
theorem dX9_dayNow_18 : decode cX9_dayNow 18 = .ok (.getfield 216, 3) := by decide +kernel
theorem dX9_dayNow_21 : decode cX9_dayNow 21 = .ok (.irem, 1) := by decide +kernel
theorem dX9_dayNow_22 : decode cX9_dayNow 22 = .ok (.ireturn, 1) := by decide +kernel
theorem dX9_isToCome_0 : decode cX9_isToCome 0 = .ok (.aload_n 0, 1) := by decide +kernel
theorem dX9_isToCome_1 : decode cX9_isToCome 1 = .ok (.iload_n 1, 1) := by decide +kernel
theorem dX9_isToCome_2 : decode cX9_isToCome 2 = .ok (.invokevirtual 228, 3) := by decide +kernel
theorem dX9_isToCome_5 : decode cX9_isToCome 5 = .ok (.aload_n 0, 1) := by decide +kernel
theorem dX9_isToCome_6 : decode cX9_isToCome 6 = .ok (.invokevirtual 232, 3) := by decide +kernel
theorem dX9_isToCome_9 : decode cX9_isToCome 9 = .ok (.if_icmp .lt 7, 3) := by decide +kernel
theorem dX9_isToCome_12 : decode cX9_isToCome 12 = .ok (.iconst 1, 1) := by decide +kernel
theorem dX9_isToCome_13 : decode cX9_isToCome 13 = .ok (.goto 4, 3) := by decide +kernel
theorem dX9_isToCome_16 : decode cX9_isToCome 16 = .ok (.iconst 0, 1) := by decide +kernel
theorem dX9_isToCome_17 : decode cX9_isToCome 17 = .ok (.ireturn, 1) := by decide +kernel
theorem dX9_hoardedOf_0 : decode cX9_hoardedOf 0 = .ok (.iconst 0, 1) := by decide +kernel
theorem dX9_hoardedOf_1 : decode cX9_hoardedOf 1 = .ok (.istore_n 3, 1) := by decide +kernel
theorem dX9_hoardedOf_2 : decode cX9_hoardedOf 2 = .ok (.iconst 0, 1) := by decide +kernel
theorem dX9_hoardedOf_3 : decode cX9_hoardedOf 3 = .ok (.istore 4, 2) := by decide +kernel
theorem dX9_hoardedOf_5 : decode cX9_hoardedOf 5 = .ok (.iload 4, 2) := by decide +kernel
theorem dX9_hoardedOf_7 : decode cX9_hoardedOf 7 = .ok (.aload_n 0, 1) := by decide +kernel
theorem dX9_hoardedOf_8 : decode cX9_hoardedOf 8 = .ok (.getfield 124, 3) := by decide +kernel
theorem dX9_hoardedOf_11 : decode cX9_hoardedOf 11 = .ok (.if_icmp .ge 24, 3) := by decide +kernel
theorem dX9_hoardedOf_14 : decode cX9_hoardedOf 14 = .ok (.iload_n 3, 1) := by decide +kernel
theorem dX9_hoardedOf_15 : decode cX9_hoardedOf 15 = .ok (.aload_n 1, 1) := by decide +kernel
theorem dX9_hoardedOf_16 : decode cX9_hoardedOf 16 = .ok (.bipush 29, 2) := by decide +kernel
theorem dX9_hoardedOf_18 : decode cX9_hoardedOf 18 = .ok (.bipush 8, 2) := by decide +kernel
theorem dX9_hoardedOf_20 : decode cX9_hoardedOf 20 = .ok (.iload 4, 2) := by decide +kernel
theorem dX9_hoardedOf_22 : decode cX9_hoardedOf 22 = .ok (.imul, 1) := by decide +kernel
theorem dX9_hoardedOf_23 : decode cX9_hoardedOf 23 = .ok (.iadd, 1) := by decide +kernel
theorem dX9_hoardedOf_24 : decode cX9_hoardedOf 24 = .ok (.iload_n 2, 1) := by decide +kernel
theorem dX9_hoardedOf_25 : decode cX9_hoardedOf 25 = .ok (.iadd, 1) := by decide +kernel
theorem dX9_hoardedOf_26 : decode cX9_hoardedOf 26 = .ok (.iaload, 1) := by decide +kernel
theorem dX9_hoardedOf_27 : decode cX9_hoardedOf 27 = .ok (.iadd, 1) := by decide +kernel
theorem dX9_hoardedOf_28 : decode cX9_hoardedOf 28 = .ok (.istore_n 3, 1) := by decide +kernel
theorem dX9_hoardedOf_29 : decode cX9_hoardedOf 29 = .ok (.iinc 4 1, 3) := by decide +kernel
theorem dX9_hoardedOf_32 : decode cX9_hoardedOf 32 = .ok (.goto (-27), 3) := by decide +kernel
theorem dX9_hoardedOf_35 : decode cX9_hoardedOf 35 = .ok (.iload_n 3, 1) := by decide +kernel
theorem dX9_hoardedOf_36 : decode cX9_hoardedOf 36 = .ok (.ireturn, 1) := by decide +kernel
theorem dX9_told_0 : decode cX9_told 0 = .ok (.iconst 0, 1) := by decide +kernel
theorem dX9_told_1 : decode cX9_told 1 = .ok (.istore_n 2, 1) := by decide +kernel
theorem dX9_told_2 : decode cX9_told 2 = .ok (.iconst 0, 1) := by decide +kernel
theorem dX9_told_3 : decode cX9_told 3 = .ok (.istore_n 3, 1) := by decide +kernel
theorem dX9_told_4 : decode cX9_told 4 = .ok (.iload_n 3, 1) := by decide +kernel
theorem dX9_told_5 : decode cX9_told 5 = .ok (.aload_n 0, 1) := by decide +kernel
theorem dX9_told_6 : decode cX9_told 6 = .ok (.getfield 117, 3) := by decide +kernel
theorem dX9_told_9 : decode cX9_told 9 = .ok (.if_icmp .ge 31, 3) := by decide +kernel
theorem dX9_told_12 : decode cX9_told 12 = .ok (.iload_n 2, 1) := by decide +kernel
theorem dX9_told_13 : decode cX9_told 13 = .ok (.aload_n 0, 1) := by decide +kernel
theorem dX9_told_14 : decode cX9_told 14 = .ok (.getfield 7, 3) := by decide +kernel
theorem dX9_told_17 : decode cX9_told 17 = .ok (.bipush 21, 2) := by decide +kernel
theorem dX9_told_19 : decode cX9_told 19 = .ok (.iload_n 3, 1) := by decide +kernel
theorem dX9_told_20 : decode cX9_told 20 = .ok (.iadd, 1) := by decide +kernel
theorem dX9_told_21 : decode cX9_told 21 = .ok (.iaload, 1) := by decide +kernel
theorem dX9_told_22 : decode cX9_told 22 = .ok (.ifCond .ne 9, 3) := by decide +kernel
theorem dX9_told_25 : decode cX9_told 25 = .ok (.iconst 1, 1) := by decide +kernel
theorem dX9_told_26 : decode cX9_told 26 = .ok (.iload_n 3, 1) := by decide +kernel
theorem dX9_told_27 : decode cX9_told 27 = .ok (.ishl, 1) := by decide +kernel
theorem dX9_told_28 : decode cX9_told 28 = .ok (.goto 4, 3) := by decide +kernel
theorem dX9_told_31 : decode cX9_told 31 = .ok (.iconst 0, 1) := by decide +kernel
theorem dX9_told_32 : decode cX9_told 32 = .ok (.ior, 1) := by decide +kernel
theorem dX9_told_33 : decode cX9_told 33 = .ok (.istore_n 2, 1) := by decide +kernel
theorem dX9_told_34 : decode cX9_told 34 = .ok (.iinc 3 1, 3) := by decide +kernel
theorem dX9_told_37 : decode cX9_told 37 = .ok (.goto (-33), 3) := by decide +kernel
theorem dX9_told_40 : decode cX9_told 40 = .ok (.iconst 0, 1) := by decide +kernel
theorem dX9_told_41 : decode cX9_told 41 = .ok (.istore_n 3, 1) := by decide +kernel
theorem dX9_told_42 : decode cX9_told 42 = .ok (.iconst 0, 1) := by decide +kernel
theorem dX9_told_43 : decode cX9_told 43 = .ok (.istore 4, 2) := by decide +kernel
theorem dX9_told_45 : decode cX9_told 45 = .ok (.iload 4, 2) := by decide +kernel
theorem dX9_told_47 : decode cX9_told 47 = .ok (.bipush 16, 2) := by decide +kernel
theorem dX9_told_49 : decode cX9_told 49 = .ok (.if_icmp .ge 27, 3) := by decide +kernel
theorem dX9_told_52 : decode cX9_told 52 = .ok (.iload_n 3, 1) := by decide +kernel
theorem dX9_told_53 : decode cX9_told 53 = .ok (.aload_n 0, 1) := by decide +kernel
theorem dX9_told_54 : decode cX9_told 54 = .ok (.getfield 25, 3) := by decide +kernel
theorem dX9_told_57 : decode cX9_told 57 = .ok (.iload 4, 2) := by decide +kernel
theorem dX9_told_59 : decode cX9_told 59 = .ok (.iaload, 1) := by decide +kernel
theorem dX9_told_60 : decode cX9_told 60 = .ok (.ifCond .ne 7, 3) := by decide +kernel
theorem dX9_told_63 : decode cX9_told 63 = .ok (.iconst 0, 1) := by decide +kernel
theorem dX9_told_64 : decode cX9_told 64 = .ok (.goto 4, 3) := by decide +kernel
theorem dX9_told_67 : decode cX9_told 67 = .ok (.iconst 1, 1) := by decide +kernel
theorem dX9_told_68 : decode cX9_told 68 = .ok (.iadd, 1) := by decide +kernel
theorem dX9_told_69 : decode cX9_told 69 = .ok (.istore_n 3, 1) := by decide +kernel
theorem dX9_told_70 : decode cX9_told 70 = .ok (.iinc 4 1, 3) := by decide +kernel
theorem dX9_told_73 : decode cX9_told 73 = .ok (.goto (-28), 3) := by decide +kernel
theorem dX9_told_76 : decode cX9_told 76 = .ok (.iload_n 1, 1) := by decide +kernel
theorem dX9_told_77 : decode cX9_told 77 = .ok (.tableswitch 163 0 15 #[79, 84, 89, 91, 96, 101, 106, 113, 118, 125, 132, 139, 146, 148, 153, 158], 79) := by decide +kernel
theorem dX9_told_156 : decode cX9_told 156 = .ok (.aload_n 0, 1) := by decide +kernel
theorem dX9_told_157 : decode cX9_told 157 = .ok (.getfield 216, 3) := by decide +kernel
theorem dX9_told_160 : decode cX9_told 160 = .ok (.ireturn, 1) := by decide +kernel
theorem dX9_told_161 : decode cX9_told 161 = .ok (.aload_n 0, 1) := by decide +kernel
theorem dX9_told_162 : decode cX9_told 162 = .ok (.getfield 117, 3) := by decide +kernel
theorem dX9_told_165 : decode cX9_told 165 = .ok (.ireturn, 1) := by decide +kernel
theorem dX9_told_166 : decode cX9_told 166 = .ok (.iload_n 3, 1) := by decide +kernel
theorem dX9_told_167 : decode cX9_told 167 = .ok (.ireturn, 1) := by decide +kernel
theorem dX9_told_168 : decode cX9_told 168 = .ok (.aload_n 0, 1) := by decide +kernel
theorem dX9_told_169 : decode cX9_told 169 = .ok (.getfield 124, 3) := by decide +kernel
theorem dX9_told_172 : decode cX9_told 172 = .ok (.ireturn, 1) := by decide +kernel
theorem dX9_told_173 : decode cX9_told 173 = .ok (.aload_n 0, 1) := by decide +kernel
theorem dX9_told_174 : decode cX9_told 174 = .ok (.getfield 127, 3) := by decide +kernel
theorem dX9_told_177 : decode cX9_told 177 = .ok (.ireturn, 1) := by decide +kernel
theorem dX9_told_178 : decode cX9_told 178 = .ok (.aload_n 0, 1) := by decide +kernel
theorem dX9_told_179 : decode cX9_told 179 = .ok (.getfield 134, 3) := by decide +kernel
theorem dX9_told_182 : decode cX9_told 182 = .ok (.ireturn, 1) := by decide +kernel
theorem dX9_told_183 : decode cX9_told 183 = .ok (.aload_n 0, 1) := by decide +kernel
theorem dX9_told_184 : decode cX9_told 184 = .ok (.getfield 7, 3) := by decide +kernel
theorem dX9_told_187 : decode cX9_told 187 = .ok (.iconst 0, 1) := by decide +kernel
theorem dX9_told_188 : decode cX9_told 188 = .ok (.iaload, 1) := by decide +kernel
theorem dX9_told_189 : decode cX9_told 189 = .ok (.ireturn, 1) := by decide +kernel
theorem dX9_told_190 : decode cX9_told 190 = .ok (.aload_n 0, 1) := by decide +kernel
theorem dX9_told_191 : decode cX9_told 191 = .ok (.invokevirtual 232, 3) := by decide +kernel
theorem dX9_told_194 : decode cX9_told 194 = .ok (.ireturn, 1) := by decide +kernel
theorem dX9_told_195 : decode cX9_told 195 = .ok (.aload_n 0, 1) := by decide +kernel
theorem dX9_told_196 : decode cX9_told 196 = .ok (.getfield 7, 3) := by decide +kernel
theorem dX9_told_199 : decode cX9_told 199 = .ok (.iconst 1, 1) := by decide +kernel
theorem dX9_told_200 : decode cX9_told 200 = .ok (.iaload, 1) := by decide +kernel
theorem dX9_told_201 : decode cX9_told 201 = .ok (.ireturn, 1) := by decide +kernel
theorem dX9_told_202 : decode cX9_told 202 = .ok (.aload_n 0, 1) := by decide +kernel
theorem dX9_told_203 : decode cX9_told 203 = .ok (.getfield 7, 3) := by decide +kernel
theorem dX9_told_206 : decode cX9_told 206 = .ok (.iconst 2, 1) := by decide +kernel
theorem dX9_told_207 : decode cX9_told 207 = .ok (.iaload, 1) := by decide +kernel
theorem dX9_told_208 : decode cX9_told 208 = .ok (.ireturn, 1) := by decide +kernel
theorem dX9_told_209 : decode cX9_told 209 = .ok (.aload_n 0, 1) := by decide +kernel
theorem dX9_told_210 : decode cX9_told 210 = .ok (.getfield 7, 3) := by decide +kernel
theorem dX9_told_213 : decode cX9_told 213 = .ok (.iconst 3, 1) := by decide +kernel
theorem dX9_told_214 : decode cX9_told 214 = .ok (.iaload, 1) := by decide +kernel
theorem dX9_told_215 : decode cX9_told 215 = .ok (.ireturn, 1) := by decide +kernel
theorem dX9_told_216 : decode cX9_told 216 = .ok (.aload_n 0, 1) := by decide +kernel
theorem dX9_told_217 : decode cX9_told 217 = .ok (.getfield 7, 3) := by decide +kernel
theorem dX9_told_220 : decode cX9_told 220 = .ok (.iconst 4, 1) := by decide +kernel
theorem dX9_told_221 : decode cX9_told 221 = .ok (.iaload, 1) := by decide +kernel
theorem dX9_told_222 : decode cX9_told 222 = .ok (.ireturn, 1) := by decide +kernel
theorem dX9_told_223 : decode cX9_told 223 = .ok (.iload_n 2, 1) := by decide +kernel
theorem dX9_told_224 : decode cX9_told 224 = .ok (.ireturn, 1) := by decide +kernel
theorem dX9_told_225 : decode cX9_told 225 = .ok (.aload_n 0, 1) := by decide +kernel
theorem dX9_told_226 : decode cX9_told 226 = .ok (.getfield 222, 3) := by decide +kernel
theorem dX9_told_229 : decode cX9_told 229 = .ok (.ireturn, 1) := by decide +kernel
theorem dX9_told_230 : decode cX9_told 230 = .ok (.aload_n 0, 1) := by decide +kernel
theorem dX9_told_231 : decode cX9_told 231 = .ok (.getfield 225, 3) := by decide +kernel
theorem dX9_told_234 : decode cX9_told 234 = .ok (.ireturn, 1) := by decide +kernel
theorem dX9_told_235 : decode cX9_told 235 = .ok (.aload_n 0, 1) := by decide +kernel
theorem dX9_told_236 : decode cX9_told 236 = .ok (.getfield 219, 3) := by decide +kernel
theorem dX9_told_239 : decode cX9_told 239 = .ok (.ireturn, 1) := by decide +kernel
theorem dX9_told_240 : decode cX9_told 240 = .ok (.ldc 133, 2) := by decide +kernel
theorem dX9_told_242 : decode cX9_told 242 = .ok (.ireturn, 1) := by decide +kernel
theorem dX9_word_0 : decode cX9_word 0 = .ok (.aload_n 0, 1) := by decide +kernel
theorem dX9_word_1 : decode cX9_word 1 = .ok (.iload_n 1, 1) := by decide +kernel
theorem dX9_word_2 : decode cX9_word 2 = .ok (.invokevirtual 235, 3) := by decide +kernel
theorem dX9_word_5 : decode cX9_word 5 = .ok (.ifCond .ne 6, 3) := by decide +kernel
theorem dX9_word_8 : decode cX9_word 8 = .ok (.ldc 238, 2) := by decide +kernel
theorem dX9_word_10 : decode cX9_word 10 = .ok (.ireturn, 1) := by decide +kernel
theorem dX9_word_11 : decode cX9_word 11 = .ok (.iload_n 2, 1) := by decide +kernel
theorem dX9_word_12 : decode cX9_word 12 = .ok (.tableswitch 140 0 8 #[52, 61, 68, 75, 85, 95, 105, 114, 125], 52) := by decide +kernel
theorem dX9_word_64 : decode cX9_word 64 = .ok (.aload_n 0, 1) := by decide +kernel
theorem dX9_word_65 : decode cX9_word 65 = .ok (.getfield 7, 3) := by decide +kernel
theorem dX9_word_68 : decode cX9_word 68 = .ok (.iconst 5, 1) := by decide +kernel
theorem dX9_word_69 : decode cX9_word 69 = .ok (.iload_n 1, 1) := by decide +kernel
theorem dX9_word_70 : decode cX9_word 70 = .ok (.iadd, 1) := by decide +kernel
theorem dX9_word_71 : decode cX9_word 71 = .ok (.iaload, 1) := by decide +kernel
theorem dX9_word_72 : decode cX9_word 72 = .ok (.ireturn, 1) := by decide +kernel
theorem dX9_word_73 : decode cX9_word 73 = .ok (.aload_n 0, 1) := by decide +kernel
theorem dX9_word_74 : decode cX9_word 74 = .ok (.getfield 19, 3) := by decide +kernel
theorem dX9_word_77 : decode cX9_word 77 = .ok (.iload_n 1, 1) := by decide +kernel
theorem dX9_word_78 : decode cX9_word 78 = .ok (.iaload, 1) := by decide +kernel
theorem dX9_word_79 : decode cX9_word 79 = .ok (.ireturn, 1) := by decide +kernel
theorem dX9_word_80 : decode cX9_word 80 = .ok (.aload_n 0, 1) := by decide +kernel
theorem dX9_word_81 : decode cX9_word 81 = .ok (.getfield 22, 3) := by decide +kernel
theorem dX9_word_84 : decode cX9_word 84 = .ok (.iload_n 1, 1) := by decide +kernel
theorem dX9_word_85 : decode cX9_word 85 = .ok (.iaload, 1) := by decide +kernel
theorem dX9_word_86 : decode cX9_word 86 = .ok (.ireturn, 1) := by decide +kernel
theorem dX9_word_87 : decode cX9_word 87 = .ok (.aload_n 0, 1) := by decide +kernel
theorem dX9_word_88 : decode cX9_word 88 = .ok (.getfield 7, 3) := by decide +kernel
theorem dX9_word_91 : decode cX9_word 91 = .ok (.bipush 13, 2) := by decide +kernel
theorem dX9_word_93 : decode cX9_word 93 = .ok (.iload_n 1, 1) := by decide +kernel
theorem dX9_word_94 : decode cX9_word 94 = .ok (.iadd, 1) := by decide +kernel
theorem dX9_word_95 : decode cX9_word 95 = .ok (.iaload, 1) := by decide +kernel
theorem dX9_word_96 : decode cX9_word 96 = .ok (.ireturn, 1) := by decide +kernel
theorem dX9_word_97 : decode cX9_word 97 = .ok (.aload_n 0, 1) := by decide +kernel
theorem dX9_word_98 : decode cX9_word 98 = .ok (.aload_n 0, 1) := by decide +kernel
theorem dX9_word_99 : decode cX9_word 99 = .ok (.getfield 7, 3) := by decide +kernel
theorem dX9_word_102 : decode cX9_word 102 = .ok (.iload_n 1, 1) := by decide +kernel
theorem dX9_word_103 : decode cX9_word 103 = .ok (.invokevirtual 239, 3) := by decide +kernel
theorem dX9_word_106 : decode cX9_word 106 = .ok (.ireturn, 1) := by decide +kernel
theorem dX9_word_107 : decode cX9_word 107 = .ok (.aload_n 0, 1) := by decide +kernel
theorem dX9_word_108 : decode cX9_word 108 = .ok (.getfield 7, 3) := by decide +kernel
theorem dX9_word_111 : decode cX9_word 111 = .ok (.bipush 21, 2) := by decide +kernel
theorem dX9_word_113 : decode cX9_word 113 = .ok (.iload_n 1, 1) := by decide +kernel
theorem dX9_word_114 : decode cX9_word 114 = .ok (.iadd, 1) := by decide +kernel
theorem dX9_word_115 : decode cX9_word 115 = .ok (.iaload, 1) := by decide +kernel
theorem dX9_word_116 : decode cX9_word 116 = .ok (.ireturn, 1) := by decide +kernel
theorem dX9_word_117 : decode cX9_word 117 = .ok (.aload_n 0, 1) := by decide +kernel
theorem dX9_word_118 : decode cX9_word 118 = .ok (.getfield 25, 3) := by decide +kernel
theorem dX9_word_121 : decode cX9_word 121 = .ok (.iconst 2, 1) := by decide +kernel
theorem dX9_word_122 : decode cX9_word 122 = .ok (.iload_n 1, 1) := by decide +kernel
theorem dX9_word_123 : decode cX9_word 123 = .ok (.imul, 1) := by decide +kernel
theorem dX9_word_124 : decode cX9_word 124 = .ok (.iaload, 1) := by decide +kernel
theorem dX9_word_125 : decode cX9_word 125 = .ok (.ireturn, 1) := by decide +kernel
theorem dX9_word_126 : decode cX9_word 126 = .ok (.aload_n 0, 1) := by decide +kernel
theorem dX9_word_127 : decode cX9_word 127 = .ok (.getfield 25, 3) := by decide +kernel
theorem dX9_word_130 : decode cX9_word 130 = .ok (.iconst 2, 1) := by decide +kernel
theorem dX9_word_131 : decode cX9_word 131 = .ok (.iload_n 1, 1) := by decide +kernel
theorem dX9_word_132 : decode cX9_word 132 = .ok (.imul, 1) := by decide +kernel
theorem dX9_word_133 : decode cX9_word 133 = .ok (.iconst 1, 1) := by decide +kernel
theorem dX9_word_134 : decode cX9_word 134 = .ok (.iadd, 1) := by decide +kernel
theorem dX9_word_135 : decode cX9_word 135 = .ok (.iaload, 1) := by decide +kernel
theorem dX9_word_136 : decode cX9_word 136 = .ok (.ireturn, 1) := by decide +kernel
theorem dX9_word_137 : decode cX9_word 137 = .ok (.aload_n 0, 1) := by decide +kernel
theorem dX9_word_138 : decode cX9_word 138 = .ok (.getfield 28, 3) := by decide +kernel
theorem dX9_word_141 : decode cX9_word 141 = .ok (.iload_n 1, 1) := by decide +kernel
theorem dX9_word_142 : decode cX9_word 142 = .ok (.baload, 1) := by decide +kernel
theorem dX9_word_143 : decode cX9_word 143 = .ok (.ifCond .eq 7, 3) := by decide +kernel
theorem dX9_word_146 : decode cX9_word 146 = .ok (.iconst 1, 1) := by decide +kernel
theorem dX9_word_147 : decode cX9_word 147 = .ok (.goto 4, 3) := by decide +kernel
theorem dX9_word_150 : decode cX9_word 150 = .ok (.iconst 0, 1) := by decide +kernel
theorem dX9_word_151 : decode cX9_word 151 = .ok (.ireturn, 1) := by decide +kernel
theorem dX9_word_152 : decode cX9_word 152 = .ok (.ldc 133, 2) := by decide +kernel
theorem dX9_word_154 : decode cX9_word 154 = .ok (.ireturn, 1) := by decide +kernel
theorem dX9_hoarded_0 : decode cX9_hoarded 0 = .ok (.aload_n 0, 1) := by decide +kernel
theorem dX9_hoarded_1 : decode cX9_hoarded 1 = .ok (.iload_n 1, 1) := by decide +kernel
theorem dX9_hoarded_2 : decode cX9_hoarded 2 = .ok (.invokevirtual 243, 3) := by decide +kernel
theorem dX9_hoarded_5 : decode cX9_hoarded 5 = .ok (.ifCond .eq 28, 3) := by decide +kernel
theorem dX9_hoarded_8 : decode cX9_hoarded 8 = .ok (.aload_n 0, 1) := by decide +kernel
theorem dX9_hoarded_9 : decode cX9_hoarded 9 = .ok (.iload_n 2, 1) := by decide +kernel
theorem dX9_hoarded_10 : decode cX9_hoarded 10 = .ok (.invokevirtual 235, 3) := by decide +kernel
theorem dX9_hoarded_13 : decode cX9_hoarded 13 = .ok (.ifCond .eq 20, 3) := by decide +kernel
theorem dX9_hoarded_16 : decode cX9_hoarded 16 = .ok (.aload_n 0, 1) := by decide +kernel
theorem dX9_hoarded_17 : decode cX9_hoarded 17 = .ok (.getfield 7, 3) := by decide +kernel
theorem dX9_hoarded_20 : decode cX9_hoarded 20 = .ok (.bipush 29, 2) := by decide +kernel
theorem dX9_hoarded_22 : decode cX9_hoarded 22 = .ok (.bipush 8, 2) := by decide +kernel
theorem dX9_hoarded_24 : decode cX9_hoarded 24 = .ok (.iload_n 1, 1) := by decide +kernel
theorem dX9_hoarded_25 : decode cX9_hoarded 25 = .ok (.imul, 1) := by decide +kernel
theorem dX9_hoarded_26 : decode cX9_hoarded 26 = .ok (.iadd, 1) := by decide +kernel
theorem dX9_hoarded_27 : decode cX9_hoarded 27 = .ok (.iload_n 2, 1) := by decide +kernel
theorem dX9_hoarded_28 : decode cX9_hoarded 28 = .ok (.iadd, 1) := by decide +kernel
theorem dX9_hoarded_29 : decode cX9_hoarded 29 = .ok (.iaload, 1) := by decide +kernel
theorem dX9_hoarded_30 : decode cX9_hoarded 30 = .ok (.goto 5, 3) := by decide +kernel
theorem dX9_hoarded_33 : decode cX9_hoarded 33 = .ok (.ldc 238, 2) := by decide +kernel
theorem dX9_hoarded_35 : decode cX9_hoarded 35 = .ok (.ireturn, 1) := by decide +kernel
theorem dX9_need_0 : decode cX9_need 0 = .ok (.aload_n 0, 1) := by decide +kernel
theorem dX9_need_1 : decode cX9_need 1 = .ok (.iload_n 1, 1) := by decide +kernel
theorem dX9_need_2 : decode cX9_need 2 = .ok (.invokevirtual 246, 3) := by decide +kernel
theorem dX9_need_5 : decode cX9_need 5 = .ok (.ifCond .ne 6, 3) := by decide +kernel
theorem dX9_need_8 : decode cX9_need 8 = .ok (.ldc 238, 2) := by decide +kernel
theorem dX9_need_10 : decode cX9_need 10 = .ok (.ireturn, 1) := by decide +kernel
theorem dX9_need_11 : decode cX9_need 11 = .ok (.iload_n 2, 1) := by decide +kernel
theorem dX9_need_12 : decode cX9_need 12 = .ok (.i2l, 1) := by decide +kernel
theorem dX9_need_13 : decode cX9_need 13 = .ok (.lconst 0, 1) := by decide +kernel
theorem dX9_need_14 : decode cX9_need 14 = .ok (.ldc2_w 249, 3) := by decide +kernel
theorem dX9_need_17 : decode cX9_need 17 = .ok (.invokestatic 120, 3) := by decide +kernel
theorem dX9_need_20 : decode cX9_need 20 = .ok (.ifCond .ne 6, 3) := by decide +kernel
theorem dX9_need_23 : decode cX9_need 23 = .ok (.ldc 133, 2) := by decide +kernel
theorem dX9_need_25 : decode cX9_need 25 = .ok (.ireturn, 1) := by decide +kernel
theorem dX9_need_26 : decode cX9_need 26 = .ok (.iload_n 2, 1) := by decide +kernel
theorem dX9_need_27 : decode cX9_need 27 = .ok (.iconst 4, 1) := by decide +kernel
theorem dX9_need_28 : decode cX9_need 28 = .ok (.if_icmp .ge 16, 3) := by decide +kernel
theorem dX9_need_31 : decode cX9_need 31 = .ok (.aload_n 0, 1) := by decide +kernel
theorem dX9_need_32 : decode cX9_need 32 = .ok (.getfield 35, 3) := by decide +kernel
theorem dX9_need_35 : decode cX9_need 35 = .ok (.iconst 4, 1) := by decide +kernel
theorem dX9_need_36 : decode cX9_need 36 = .ok (.iload_n 1, 1) := by decide +kernel
theorem dX9_need_37 : decode cX9_need 37 = .ok (.imul, 1) := by decide +kernel
theorem dX9_need_38 : decode cX9_need 38 = .ok (.iload_n 2, 1) := by decide +kernel
theorem dX9_need_39 : decode cX9_need 39 = .ok (.iadd, 1) := by decide +kernel
theorem dX9_need_40 : decode cX9_need 40 = .ok (.iaload, 1) := by decide +kernel
theorem dX9_need_41 : decode cX9_need 41 = .ok (.goto 16, 3) := by decide +kernel
theorem dX9_need_44 : decode cX9_need 44 = .ok (.aload_n 0, 1) := by decide +kernel
theorem dX9_need_45 : decode cX9_need 45 = .ok (.iload_n 1, 1) := by decide +kernel
theorem dX9_need_46 : decode cX9_need 46 = .ok (.invokevirtual 251, 3) := by decide +kernel
theorem dX9_need_49 : decode cX9_need 49 = .ok (.ifCond .eq 7, 3) := by decide +kernel
theorem dX9_need_52 : decode cX9_need 52 = .ok (.iconst 1, 1) := by decide +kernel
theorem dX9_need_53 : decode cX9_need 53 = .ok (.goto 4, 3) := by decide +kernel
theorem dX9_need_56 : decode cX9_need 56 = .ok (.iconst 0, 1) := by decide +kernel
theorem dX9_need_57 : decode cX9_need 57 = .ok (.ireturn, 1) := by decide +kernel
theorem dX9_keepAct_0 : decode cX9_keepAct 0 = .ok (.aload_n 0, 1) := by decide +kernel
theorem dX9_keepAct_1 : decode cX9_keepAct 1 = .ok (.getfield 219, 3) := by decide +kernel
theorem dX9_keepAct_4 : decode cX9_keepAct 4 = .ok (.bipush 16, 2) := by decide +kernel
theorem dX9_keepAct_6 : decode cX9_keepAct 6 = .ok (.if_icmp .ne 43, 3) := by decide +kernel
theorem dX9_keepAct_9 : decode cX9_keepAct 9 = .ok (.iconst 0, 1) := by decide +kernel
theorem dX9_keepAct_10 : decode cX9_keepAct 10 = .ok (.istore_n 1, 1) := by decide +kernel
theorem dX9_keepAct_11 : decode cX9_keepAct 11 = .ok (.iload_n 1, 1) := by decide +kernel
theorem dX9_keepAct_12 : decode cX9_keepAct 12 = .ok (.sipush 1035, 3) := by decide +kernel
theorem dX9_keepAct_15 : decode cX9_keepAct 15 = .ok (.if_icmp .ge 24, 3) := by decide +kernel
theorem dX9_keepAct_18 : decode cX9_keepAct 18 = .ok (.aload_n 0, 1) := by decide +kernel
theorem dX9_keepAct_19 : decode cX9_keepAct 19 = .ok (.getfield 16, 3) := by decide +kernel
theorem dX9_keepAct_22 : decode cX9_keepAct 22 = .ok (.iload_n 1, 1) := by decide +kernel
theorem dX9_keepAct_23 : decode cX9_keepAct 23 = .ok (.aload_n 0, 1) := by decide +kernel
theorem dX9_keepAct_24 : decode cX9_keepAct 24 = .ok (.getfield 16, 3) := by decide +kernel
theorem dX9_keepAct_27 : decode cX9_keepAct 27 = .ok (.iload_n 1, 1) := by decide +kernel
theorem dX9_keepAct_28 : decode cX9_keepAct 28 = .ok (.bipush 69, 2) := by decide +kernel
theorem dX9_keepAct_30 : decode cX9_keepAct 30 = .ok (.iadd, 1) := by decide +kernel
theorem dX9_keepAct_31 : decode cX9_keepAct 31 = .ok (.iaload, 1) := by decide +kernel
theorem dX9_keepAct_32 : decode cX9_keepAct 32 = .ok (.iastore, 1) := by decide +kernel
theorem dX9_keepAct_33 : decode cX9_keepAct 33 = .ok (.iinc 1 1, 3) := by decide +kernel
theorem dX9_keepAct_36 : decode cX9_keepAct 36 = .ok (.goto (-25), 3) := by decide +kernel
theorem dX9_keepAct_39 : decode cX9_keepAct 39 = .ok (.aload_n 0, 1) := by decide +kernel
theorem dX9_keepAct_40 : decode cX9_keepAct 40 = .ok (.dup, 1) := by decide +kernel
theorem dX9_keepAct_41 : decode cX9_keepAct 41 = .ok (.getfield 219, 3) := by decide +kernel
theorem dX9_keepAct_44 : decode cX9_keepAct 44 = .ok (.iconst 1, 1) := by decide +kernel
theorem dX9_keepAct_45 : decode cX9_keepAct 45 = .ok (.isub, 1) := by decide +kernel
theorem dX9_keepAct_46 : decode cX9_keepAct 46 = .ok (.putfield 219, 3) := by decide +kernel
theorem dX9_keepAct_49 : decode cX9_keepAct 49 = .ok (.iconst 0, 1) := by decide +kernel
theorem dX9_keepAct_50 : decode cX9_keepAct 50 = .ok (.istore_n 1, 1) := by decide +kernel
theorem dX9_keepAct_51 : decode cX9_keepAct 51 = .ok (.iload_n 1, 1) := by decide +kernel
theorem dX9_keepAct_52 : decode cX9_keepAct 52 = .ok (.bipush 69, 2) := by decide +kernel
theorem dX9_keepAct_54 : decode cX9_keepAct 54 = .ok (.if_icmp .ge 29, 3) := by decide +kernel
theorem dX9_keepAct_57 : decode cX9_keepAct 57 = .ok (.aload_n 0, 1) := by decide +kernel
theorem dX9_keepAct_58 : decode cX9_keepAct 58 = .ok (.getfield 16, 3) := by decide +kernel
theorem dX9_keepAct_61 : decode cX9_keepAct 61 = .ok (.bipush 69, 2) := by decide +kernel
theorem dX9_keepAct_63 : decode cX9_keepAct 63 = .ok (.aload_n 0, 1) := by decide +kernel
theorem dX9_keepAct_64 : decode cX9_keepAct 64 = .ok (.getfield 219, 3) := by decide +kernel
theorem dX9_keepAct_67 : decode cX9_keepAct 67 = .ok (.imul, 1) := by decide +kernel
theorem dX9_keepAct_68 : decode cX9_keepAct 68 = .ok (.iload_n 1, 1) := by decide +kernel
theorem dX9_keepAct_69 : decode cX9_keepAct 69 = .ok (.iadd, 1) := by decide +kernel
theorem dX9_keepAct_70 : decode cX9_keepAct 70 = .ok (.aload_n 0, 1) := by decide +kernel
theorem dX9_keepAct_71 : decode cX9_keepAct 71 = .ok (.getfield 7, 3) := by decide +kernel
theorem dX9_keepAct_74 : decode cX9_keepAct 74 = .ok (.iload_n 1, 1) := by decide +kernel
theorem dX9_keepAct_75 : decode cX9_keepAct 75 = .ok (.iaload, 1) := by decide +kernel
theorem dX9_keepAct_76 : decode cX9_keepAct 76 = .ok (.iastore, 1) := by decide +kernel
theorem dX9_keepAct_77 : decode cX9_keepAct 77 = .ok (.iinc 1 1, 3) := by decide +kernel
theorem dX9_keepAct_80 : decode cX9_keepAct 80 = .ok (.goto (-29), 3) := by decide +kernel
theorem dX9_keepAct_83 : decode cX9_keepAct 83 = .ok (.aload_n 0, 1) := by decide +kernel
theorem dX9_keepAct_84 : decode cX9_keepAct 84 = .ok (.dup, 1) := by decide +kernel
theorem dX9_keepAct_85 : decode cX9_keepAct 85 = .ok (.getfield 219, 3) := by decide +kernel
theorem dX9_keepAct_88 : decode cX9_keepAct 88 = .ok (.iconst 1, 1) := by decide +kernel
theorem dX9_keepAct_89 : decode cX9_keepAct 89 = .ok (.iadd, 1) := by decide +kernel
theorem dX9_keepAct_90 : decode cX9_keepAct 90 = .ok (.putfield 219, 3) := by decide +kernel
theorem dX9_keepAct_93 : decode cX9_keepAct 93 = .ok (.return_, 1) := by decide +kernel
theorem dX9_canSay_0 : decode cX9_canSay 0 = .ok (.aload_n 0, 1) := by decide +kernel
theorem dX9_canSay_1 : decode cX9_canSay 1 = .ok (.bipush 29, 2) := by decide +kernel
theorem dX9_canSay_3 : decode cX9_canSay 3 = .ok (.bipush 8, 2) := by decide +kernel
theorem dX9_canSay_5 : decode cX9_canSay 5 = .ok (.iload_n 1, 1) := by decide +kernel
theorem dX9_canSay_6 : decode cX9_canSay 6 = .ok (.imul, 1) := by decide +kernel
theorem dX9_canSay_7 : decode cX9_canSay 7 = .ok (.iadd, 1) := by decide +kernel
theorem dX9_canSay_8 : decode cX9_canSay 8 = .ok (.iload_n 2, 1) := by decide +kernel
theorem dX9_canSay_9 : decode cX9_canSay 9 = .ok (.iadd, 1) := by decide +kernel
theorem dX9_canSay_10 : decode cX9_canSay 10 = .ok (.iaload, 1) := by decide +kernel
theorem dX9_canSay_11 : decode cX9_canSay 11 = .ok (.ifCond .gt 12, 3) := by decide +kernel
theorem dX9_canSay_14 : decode cX9_canSay 14 = .ok (.aload_n 0, 1) := by decide +kernel
theorem dX9_canSay_15 : decode cX9_canSay 15 = .ok (.bipush 13, 2) := by decide +kernel
theorem dX9_canSay_17 : decode cX9_canSay 17 = .ok (.iload_n 2, 1) := by decide +kernel
theorem dX9_canSay_18 : decode cX9_canSay 18 = .ok (.iadd, 1) := by decide +kernel
theorem dX9_canSay_19 : decode cX9_canSay 19 = .ok (.iaload, 1) := by decide +kernel
theorem dX9_canSay_20 : decode cX9_canSay 20 = .ok (.ifCond .le 7, 3) := by decide +kernel
theorem dX9_canSay_23 : decode cX9_canSay 23 = .ok (.iconst 1, 1) := by decide +kernel
theorem dX9_canSay_24 : decode cX9_canSay 24 = .ok (.goto 4, 3) := by decide +kernel
theorem dX9_canSay_27 : decode cX9_canSay 27 = .ok (.iconst 0, 1) := by decide +kernel
theorem dX9_canSay_28 : decode cX9_canSay 28 = .ok (.ireturn, 1) := by decide +kernel
theorem dX9_says_0 : decode cX9_says 0 = .ok (.aload_n 0, 1) := by decide +kernel
theorem dX9_says_1 : decode cX9_says 1 = .ok (.bipush 29, 2) := by decide +kernel
theorem dX9_says_3 : decode cX9_says 3 = .ok (.bipush 8, 2) := by decide +kernel
theorem dX9_says_5 : decode cX9_says 5 = .ok (.iload_n 1, 1) := by decide +kernel
theorem dX9_says_6 : decode cX9_says 6 = .ok (.imul, 1) := by decide +kernel
theorem dX9_says_7 : decode cX9_says 7 = .ok (.iadd, 1) := by decide +kernel
theorem dX9_says_8 : decode cX9_says 8 = .ok (.iload_n 2, 1) := by decide +kernel
theorem dX9_says_9 : decode cX9_says 9 = .ok (.iadd, 1) := by decide +kernel
theorem dX9_says_10 : decode cX9_says 10 = .ok (.iaload, 1) := by decide +kernel
theorem dX9_says_11 : decode cX9_says 11 = .ok (.ifCond .le 21, 3) := by decide +kernel
theorem dX9_says_14 : decode cX9_says 14 = .ok (.aload_n 0, 1) := by decide +kernel
theorem dX9_says_15 : decode cX9_says 15 = .ok (.bipush 29, 2) := by decide +kernel
theorem dX9_says_17 : decode cX9_says 17 = .ok (.bipush 8, 2) := by decide +kernel
theorem dX9_says_19 : decode cX9_says 19 = .ok (.iload_n 1, 1) := by decide +kernel
theorem dX9_says_20 : decode cX9_says 20 = .ok (.imul, 1) := by decide +kernel
theorem dX9_says_21 : decode cX9_says 21 = .ok (.iadd, 1) := by decide +kernel
theorem dX9_says_22 : decode cX9_says 22 = .ok (.iload_n 2, 1) := by decide +kernel
theorem dX9_says_23 : decode cX9_says 23 = .ok (.iadd, 1) := by decide +kernel
theorem dX9_says_24 : decode cX9_says 24 = .ok (.dup2, 1) := by decide +kernel
theorem dX9_says_25 : decode cX9_says 25 = .ok (.iaload, 1) := by decide +kernel
theorem dX9_says_26 : decode cX9_says 26 = .ok (.iconst 1, 1) := by decide +kernel
theorem dX9_says_27 : decode cX9_says 27 = .ok (.isub, 1) := by decide +kernel
theorem dX9_says_28 : decode cX9_says 28 = .ok (.iastore, 1) := by decide +kernel
theorem dX9_says_29 : decode cX9_says 29 = .ok (.goto 13, 3) := by decide +kernel
theorem dX9_says_32 : decode cX9_says 32 = .ok (.aload_n 0, 1) := by decide +kernel
theorem dX9_says_33 : decode cX9_says 33 = .ok (.bipush 13, 2) := by decide +kernel
theorem dX9_says_35 : decode cX9_says 35 = .ok (.iload_n 2, 1) := by decide +kernel
theorem dX9_says_36 : decode cX9_says 36 = .ok (.iadd, 1) := by decide +kernel
theorem dX9_says_37 : decode cX9_says 37 = .ok (.dup2, 1) := by decide +kernel
theorem dX9_says_38 : decode cX9_says 38 = .ok (.iaload, 1) := by decide +kernel
theorem dX9_says_39 : decode cX9_says 39 = .ok (.iconst 1, 1) := by decide +kernel
theorem dX9_says_40 : decode cX9_says 40 = .ok (.isub, 1) := by decide +kernel
theorem dX9_says_41 : decode cX9_says 41 = .ok (.iastore, 1) := by decide +kernel
theorem dX9_says_42 : decode cX9_says 42 = .ok (.aload_n 0, 1) := by decide +kernel
theorem dX9_says_43 : decode cX9_says 43 = .ok (.bipush 21, 2) := by decide +kernel
theorem dX9_says_45 : decode cX9_says 45 = .ok (.iload_n 2, 1) := by decide +kernel
theorem dX9_says_46 : decode cX9_says 46 = .ok (.iadd, 1) := by decide +kernel
theorem dX9_says_47 : decode cX9_says 47 = .ok (.aload_n 0, 1) := by decide +kernel
theorem dX9_says_48 : decode cX9_says 48 = .ok (.bipush 21, 2) := by decide +kernel
theorem dX9_says_50 : decode cX9_says 50 = .ok (.iload_n 2, 1) := by decide +kernel
theorem dX9_says_51 : decode cX9_says 51 = .ok (.iadd, 1) := by decide +kernel
theorem dX9_says_52 : decode cX9_says 52 = .ok (.iaload, 1) := by decide +kernel
theorem dX9_says_53 : decode cX9_says 53 = .ok (.iconst 1, 1) := by decide +kernel
theorem dX9_says_54 : decode cX9_says 54 = .ok (.invokestatic 254, 3) := by decide +kernel
theorem dX9_says_57 : decode cX9_says 57 = .ok (.iastore, 1) := by decide +kernel
theorem dX9_says_58 : decode cX9_says 58 = .ok (.return_, 1) := by decide +kernel
theorem dX9_canGo_0 : decode cX9_canGo 0 = .ok (.iload_n 2, 1) := by decide +kernel
theorem dX9_canGo_1 : decode cX9_canGo 1 = .ok (.ifCond .eq 7, 3) := by decide +kernel
theorem dX9_canGo_4 : decode cX9_canGo 4 = .ok (.iconst 1, 1) := by decide +kernel
theorem dX9_canGo_5 : decode cX9_canGo 5 = .ok (.goto 4, 3) := by decide +kernel
theorem dX9_canGo_8 : decode cX9_canGo 8 = .ok (.iconst 0, 1) := by decide +kernel
theorem dX9_canGo_9 : decode cX9_canGo 9 = .ok (.istore_n 3, 1) := by decide +kernel
theorem dX9_canGo_10 : decode cX9_canGo 10 = .ok (.iconst 0, 1) := by decide +kernel
theorem dX9_canGo_11 : decode cX9_canGo 11 = .ok (.istore 4, 2) := by decide +kernel
theorem dX9_canGo_13 : decode cX9_canGo 13 = .ok (.iload 4, 2) := by decide +kernel
theorem dX9_canGo_15 : decode cX9_canGo 15 = .ok (.bipush 8, 2) := by decide +kernel
theorem dX9_canGo_17 : decode cX9_canGo 17 = .ok (.if_icmp .ge 38, 3) := by decide +kernel
theorem dX9_canGo_20 : decode cX9_canGo 20 = .ok (.iload_n 3, 1) := by decide +kernel
theorem dX9_canGo_21 : decode cX9_canGo 21 = .ok (.ifCond .eq 26, 3) := by decide +kernel
theorem dX9_canGo_24 : decode cX9_canGo 24 = .ok (.iload_n 2, 1) := by decide +kernel
theorem dX9_canGo_25 : decode cX9_canGo 25 = .ok (.iload 4, 2) := by decide +kernel
theorem dX9_canGo_27 : decode cX9_canGo 27 = .ok (.invokestatic 178, 3) := by decide +kernel
theorem dX9_canGo_30 : decode cX9_canGo 30 = .ok (.ifCond .eq 13, 3) := by decide +kernel
theorem dX9_canGo_33 : decode cX9_canGo 33 = .ok (.aload_n 0, 1) := by decide +kernel
theorem dX9_canGo_34 : decode cX9_canGo 34 = .ok (.iload_n 1, 1) := by decide +kernel
theorem dX9_canGo_35 : decode cX9_canGo 35 = .ok (.iload 4, 2) := by decide +kernel
theorem dX9_canGo_37 : decode cX9_canGo 37 = .ok (.invokestatic 257, 3) := by decide +kernel
theorem dX9_canGo_40 : decode cX9_canGo 40 = .ok (.ifCond .eq 7, 3) := by decide +kernel
theorem dX9_canGo_43 : decode cX9_canGo 43 = .ok (.iconst 1, 1) := by decide +kernel
theorem dX9_canGo_44 : decode cX9_canGo 44 = .ok (.goto 4, 3) := by decide +kernel
theorem dX9_canGo_47 : decode cX9_canGo 47 = .ok (.iconst 0, 1) := by decide +kernel
theorem dX9_canGo_48 : decode cX9_canGo 48 = .ok (.istore_n 3, 1) := by decide +kernel
theorem dX9_canGo_49 : decode cX9_canGo 49 = .ok (.iinc 4 1, 3) := by decide +kernel
theorem dX9_canGo_52 : decode cX9_canGo 52 = .ok (.goto (-39), 3) := by decide +kernel
theorem dX9_canGo_55 : decode cX9_canGo 55 = .ok (.iload_n 3, 1) := by decide +kernel
theorem dX9_canGo_56 : decode cX9_canGo 56 = .ok (.ireturn, 1) := by decide +kernel
theorem dX9_goes_0 : decode cX9_goes 0 = .ok (.iconst 0, 1) := by decide +kernel
theorem dX9_goes_1 : decode cX9_goes 1 = .ok (.istore_n 3, 1) := by decide +kernel
theorem dX9_goes_2 : decode cX9_goes 2 = .ok (.iload_n 3, 1) := by decide +kernel
theorem dX9_goes_3 : decode cX9_goes 3 = .ok (.bipush 8, 2) := by decide +kernel
theorem dX9_goes_5 : decode cX9_goes 5 = .ok (.if_icmp .ge 23, 3) := by decide +kernel
theorem dX9_goes_8 : decode cX9_goes 8 = .ok (.iload_n 2, 1) := by decide +kernel
theorem dX9_goes_9 : decode cX9_goes 9 = .ok (.iload_n 3, 1) := by decide +kernel
theorem dX9_goes_10 : decode cX9_goes 10 = .ok (.invokestatic 178, 3) := by decide +kernel
theorem dX9_goes_13 : decode cX9_goes 13 = .ok (.ifCond .eq 9, 3) := by decide +kernel
theorem dX9_goes_16 : decode cX9_goes 16 = .ok (.aload_n 0, 1) := by decide +kernel
theorem dX9_goes_17 : decode cX9_goes 17 = .ok (.iload_n 1, 1) := by decide +kernel
theorem dX9_goes_18 : decode cX9_goes 18 = .ok (.iload_n 3, 1) := by decide +kernel
theorem dX9_goes_19 : decode cX9_goes 19 = .ok (.invokestatic 261, 3) := by decide +kernel
theorem dX9_goes_22 : decode cX9_goes 22 = .ok (.iinc 3 1, 3) := by decide +kernel
theorem dX9_goes_25 : decode cX9_goes 25 = .ok (.goto (-23), 3) := by decide +kernel
theorem dX9_goes_28 : decode cX9_goes 28 = .ok (.return_, 1) := by decide +kernel
theorem dX9_meets_0 : decode cX9_meets 0 = .ok (.aload_n 0, 1) := by decide +kernel
theorem dX9_meets_1 : decode cX9_meets 1 = .ok (.iload_n 2, 1) := by decide +kernel
theorem dX9_meets_2 : decode cX9_meets 2 = .ok (.invokevirtual 265, 3) := by decide +kernel
theorem dX9_meets_5 : decode cX9_meets 5 = .ok (.istore_n 3, 1) := by decide +kernel
theorem dX9_meets_6 : decode cX9_meets 6 = .ok (.aload_n 0, 1) := by decide +kernel
theorem dX9_meets_7 : decode cX9_meets 7 = .ok (.iload_n 2, 1) := by decide +kernel
theorem dX9_meets_8 : decode cX9_meets 8 = .ok (.invokevirtual 268, 3) := by decide +kernel
theorem dX9_meets_11 : decode cX9_meets 11 = .ok (.istore 4, 2) := by decide +kernel
theorem dX9_meets_13 : decode cX9_meets 13 = .ok (.aload_n 1, 1) := by decide +kernel
theorem dX9_meets_14 : decode cX9_meets 14 = .ok (.iload_n 3, 1) := by decide +kernel
theorem dX9_meets_15 : decode cX9_meets 15 = .ok (.iload 4, 2) := by decide +kernel
theorem dX9_meets_17 : decode cX9_meets 17 = .ok (.invokestatic 257, 3) := by decide +kernel
theorem dX9_meets_20 : decode cX9_meets 20 = .ok (.ifCond .eq 12, 3) := by decide +kernel
theorem dX9_meets_23 : decode cX9_meets 23 = .ok (.aload_n 1, 1) := by decide +kernel
theorem dX9_meets_24 : decode cX9_meets 24 = .ok (.iload_n 3, 1) := by decide +kernel
theorem dX9_meets_25 : decode cX9_meets 25 = .ok (.iload 4, 2) := by decide +kernel
theorem dX9_meets_27 : decode cX9_meets 27 = .ok (.invokestatic 261, 3) := by decide +kernel
theorem dX9_meets_30 : decode cX9_meets 30 = .ok (.iconst 1, 1) := by decide +kernel
theorem dX9_meets_31 : decode cX9_meets 31 = .ok (.ireturn, 1) := by decide +kernel
theorem dX9_meets_32 : decode cX9_meets 32 = .ok (.iconst 0, 1) := by decide +kernel
theorem dX9_meets_33 : decode cX9_meets 33 = .ok (.istore 5, 2) := by decide +kernel
theorem dX9_meets_35 : decode cX9_meets 35 = .ok (.iload 5, 2) := by decide +kernel
theorem dX9_meets_37 : decode cX9_meets 37 = .ok (.iconst 2, 1) := by decide +kernel
theorem dX9_meets_38 : decode cX9_meets 38 = .ok (.if_icmp .ge 48, 3) := by decide +kernel
theorem dX9_meets_41 : decode cX9_meets 41 = .ok (.aload_n 1, 1) := by decide +kernel
theorem dX9_meets_42 : decode cX9_meets 42 = .ok (.iload_n 3, 1) := by decide +kernel
theorem dX9_meets_43 : decode cX9_meets 43 = .ok (.aload_n 0, 1) := by decide +kernel
theorem dX9_meets_44 : decode cX9_meets 44 = .ok (.getfield 25, 3) := by decide +kernel
theorem dX9_meets_47 : decode cX9_meets 47 = .ok (.iconst 2, 1) := by decide +kernel
theorem dX9_meets_48 : decode cX9_meets 48 = .ok (.iload 4, 2) := by decide +kernel
theorem dX9_meets_50 : decode cX9_meets 50 = .ok (.imul, 1) := by decide +kernel
theorem dX9_meets_51 : decode cX9_meets 51 = .ok (.iload 5, 2) := by decide +kernel
theorem dX9_meets_53 : decode cX9_meets 53 = .ok (.iadd, 1) := by decide +kernel
theorem dX9_meets_54 : decode cX9_meets 54 = .ok (.iaload, 1) := by decide +kernel
theorem dX9_meets_55 : decode cX9_meets 55 = .ok (.invokestatic 271, 3) := by decide +kernel
theorem dX9_meets_58 : decode cX9_meets 58 = .ok (.ifCond .eq 22, 3) := by decide +kernel
theorem dX9_meets_61 : decode cX9_meets 61 = .ok (.aload_n 1, 1) := by decide +kernel
theorem dX9_meets_62 : decode cX9_meets 62 = .ok (.iload_n 3, 1) := by decide +kernel
theorem dX9_meets_63 : decode cX9_meets 63 = .ok (.aload_n 0, 1) := by decide +kernel
theorem dX9_meets_64 : decode cX9_meets 64 = .ok (.getfield 25, 3) := by decide +kernel
theorem dX9_meets_67 : decode cX9_meets 67 = .ok (.iconst 2, 1) := by decide +kernel
theorem dX9_meets_68 : decode cX9_meets 68 = .ok (.iload 4, 2) := by decide +kernel
theorem dX9_meets_70 : decode cX9_meets 70 = .ok (.imul, 1) := by decide +kernel
theorem dX9_meets_71 : decode cX9_meets 71 = .ok (.iload 5, 2) := by decide +kernel
theorem dX9_meets_73 : decode cX9_meets 73 = .ok (.iadd, 1) := by decide +kernel
theorem dX9_meets_74 : decode cX9_meets 74 = .ok (.iaload, 1) := by decide +kernel
theorem dX9_meets_75 : decode cX9_meets 75 = .ok (.invokestatic 274, 3) := by decide +kernel
theorem dX9_meets_78 : decode cX9_meets 78 = .ok (.iconst 1, 1) := by decide +kernel
theorem dX9_meets_79 : decode cX9_meets 79 = .ok (.ireturn, 1) := by decide +kernel
theorem dX9_meets_80 : decode cX9_meets 80 = .ok (.iinc 5 1, 3) := by decide +kernel
theorem dX9_meets_83 : decode cX9_meets 83 = .ok (.goto (-48), 3) := by decide +kernel
theorem dX9_meets_86 : decode cX9_meets 86 = .ok (.aload_n 0, 1) := by decide +kernel
theorem dX9_meets_87 : decode cX9_meets 87 = .ok (.getfield 28, 3) := by decide +kernel
theorem dX9_meets_90 : decode cX9_meets 90 = .ok (.iload 4, 2) := by decide +kernel
theorem dX9_meets_92 : decode cX9_meets 92 = .ok (.baload, 1) := by decide +kernel
theorem dX9_meets_93 : decode cX9_meets 93 = .ok (.ifCond .eq 13, 3) := by decide +kernel
theorem dX9_meets_96 : decode cX9_meets 96 = .ok (.aload_n 1, 1) := by decide +kernel
theorem dX9_meets_97 : decode cX9_meets 97 = .ok (.iconst 4, 1) := by decide +kernel
theorem dX9_meets_98 : decode cX9_meets 98 = .ok (.aload_n 1, 1) := by decide +kernel
theorem dX9_meets_99 : decode cX9_meets 99 = .ok (.iconst 4, 1) := by decide +kernel
theorem dX9_meets_100 : decode cX9_meets 100 = .ok (.iaload, 1) := by decide +kernel
theorem dX9_meets_101 : decode cX9_meets 101 = .ok (.iconst 1, 1) := by decide +kernel
theorem dX9_meets_102 : decode cX9_meets 102 = .ok (.invokestatic 254, 3) := by decide +kernel
theorem dX9_meets_105 : decode cX9_meets 105 = .ok (.iastore, 1) := by decide +kernel
theorem dX9_meets_106 : decode cX9_meets 106 = .ok (.aload_n 0, 1) := by decide +kernel
theorem dX9_meets_107 : decode cX9_meets 107 = .ok (.getfield 28, 3) := by decide +kernel
theorem dX9_meets_110 : decode cX9_meets 110 = .ok (.iload 4, 2) := by decide +kernel
theorem dX9_meets_112 : decode cX9_meets 112 = .ok (.baload, 1) := by decide +kernel
theorem dX9_meets_113 : decode cX9_meets 113 = .ok (.ireturn, 1) := by decide +kernel
theorem dX9_goOn_0 : decode cX9_goOn 0 = .ok (.iconst 0, 1) := by decide +kernel
theorem dX9_goOn_1 : decode cX9_goOn 1 = .ok (.istore_n 2, 1) := by decide +kernel
theorem dX9_goOn_2 : decode cX9_goOn 2 = .ok (.iconst 0, 1) := by decide +kernel
theorem dX9_goOn_3 : decode cX9_goOn 3 = .ok (.istore_n 3, 1) := by decide +kernel
theorem dX9_goOn_4 : decode cX9_goOn 4 = .ok (.iload_n 3, 1) := by decide +kernel
theorem dX9_goOn_5 : decode cX9_goOn 5 = .ok (.aload_n 0, 1) := by decide +kernel
theorem dX9_goOn_6 : decode cX9_goOn 6 = .ok (.getfield 127, 3) := by decide +kernel
theorem dX9_goOn_9 : decode cX9_goOn 9 = .ok (.if_icmp .ge 97, 3) := by decide +kernel
theorem dX9_goOn_12 : decode cX9_goOn 12 = .ok (.aload_n 0, 1) := by decide +kernel
theorem dX9_goOn_13 : decode cX9_goOn 13 = .ok (.iload_n 3, 1) := by decide +kernel
theorem dX9_goOn_14 : decode cX9_goOn 14 = .ok (.invokevirtual 228, 3) := by decide +kernel
theorem dX9_goOn_17 : decode cX9_goOn 17 = .ok (.aload_n 1, 1) := by decide +kernel
theorem dX9_goOn_18 : decode cX9_goOn 18 = .ok (.iconst 0, 1) := by decide +kernel
theorem dX9_goOn_19 : decode cX9_goOn 19 = .ok (.iaload, 1) := by decide +kernel
theorem dX9_goOn_20 : decode cX9_goOn 20 = .ok (.aload_n 0, 1) := by decide +kernel
theorem dX9_goOn_21 : decode cX9_goOn 21 = .ok (.getfield 216, 3) := by decide +kernel
theorem dX9_goOn_24 : decode cX9_goOn 24 = .ok (.irem, 1) := by decide +kernel
theorem dX9_goOn_25 : decode cX9_goOn 25 = .ok (.if_icmp .ne 75, 3) := by decide +kernel
theorem dX9_goOn_28 : decode cX9_goOn 28 = .ok (.aload_n 0, 1) := by decide +kernel
theorem dX9_goOn_29 : decode cX9_goOn 29 = .ok (.aload_n 1, 1) := by decide +kernel
theorem dX9_goOn_30 : decode cX9_goOn 30 = .ok (.iload_n 3, 1) := by decide +kernel
theorem dX9_goOn_31 : decode cX9_goOn 31 = .ok (.invokevirtual 277, 3) := by decide +kernel
theorem dX9_goOn_34 : decode cX9_goOn 34 = .ok (.istore 4, 2) := by decide +kernel
theorem dX9_goOn_36 : decode cX9_goOn 36 = .ok (.iload_n 2, 1) := by decide +kernel
theorem dX9_goOn_37 : decode cX9_goOn 37 = .ok (.iload 4, 2) := by decide +kernel
theorem dX9_goOn_39 : decode cX9_goOn 39 = .ok (.ifCond .eq 7, 3) := by decide +kernel
theorem dX9_goOn_42 : decode cX9_goOn 42 = .ok (.iconst 1, 1) := by decide +kernel
theorem dX9_goOn_43 : decode cX9_goOn 43 = .ok (.goto 4, 3) := by decide +kernel
theorem dX9_goOn_46 : decode cX9_goOn 46 = .ok (.iconst 0, 1) := by decide +kernel
theorem dX9_goOn_47 : decode cX9_goOn 47 = .ok (.iadd, 1) := by decide +kernel
theorem dX9_goOn_48 : decode cX9_goOn 48 = .ok (.istore_n 2, 1) := by decide +kernel
theorem dX9_goOn_49 : decode cX9_goOn 49 = .ok (.aload_n 1, 1) := by decide +kernel
theorem dX9_goOn_50 : decode cX9_goOn 50 = .ok (.iload 4, 2) := by decide +kernel
theorem dX9_goOn_52 : decode cX9_goOn 52 = .ok (.ifCond .eq 7, 3) := by decide +kernel
theorem dX9_goOn_55 : decode cX9_goOn 55 = .ok (.iconst 1, 1) := by decide +kernel
theorem dX9_goOn_56 : decode cX9_goOn 56 = .ok (.goto 4, 3) := by decide +kernel
theorem dX9_goOn_59 : decode cX9_goOn 59 = .ok (.iconst 2, 1) := by decide +kernel
theorem dX9_goOn_60 : decode cX9_goOn 60 = .ok (.aload_n 1, 1) := by decide +kernel
theorem dX9_goOn_61 : decode cX9_goOn 61 = .ok (.iload 4, 2) := by decide +kernel
theorem dX9_goOn_63 : decode cX9_goOn 63 = .ok (.ifCond .eq 7, 3) := by decide +kernel
theorem dX9_goOn_66 : decode cX9_goOn 66 = .ok (.iconst 1, 1) := by decide +kernel
theorem dX9_goOn_67 : decode cX9_goOn 67 = .ok (.goto 4, 3) := by decide +kernel
theorem dX9_goOn_70 : decode cX9_goOn 70 = .ok (.iconst 2, 1) := by decide +kernel
theorem dX9_goOn_71 : decode cX9_goOn 71 = .ok (.iaload, 1) := by decide +kernel
theorem dX9_goOn_72 : decode cX9_goOn 72 = .ok (.iconst 1, 1) := by decide +kernel
theorem dX9_goOn_73 : decode cX9_goOn 73 = .ok (.invokestatic 254, 3) := by decide +kernel
theorem dX9_goOn_76 : decode cX9_goOn 76 = .ok (.iastore, 1) := by decide +kernel
theorem dX9_goOn_77 : decode cX9_goOn 77 = .ok (.aload_n 1, 1) := by decide +kernel
theorem dX9_goOn_78 : decode cX9_goOn 78 = .ok (.iconst 3, 1) := by decide +kernel
theorem dX9_goOn_79 : decode cX9_goOn 79 = .ok (.aload_n 1, 1) := by decide +kernel
theorem dX9_goOn_80 : decode cX9_goOn 80 = .ok (.iconst 3, 1) := by decide +kernel
theorem dX9_goOn_81 : decode cX9_goOn 81 = .ok (.iaload, 1) := by decide +kernel
theorem dX9_goOn_82 : decode cX9_goOn 82 = .ok (.iload 4, 2) := by decide +kernel
theorem dX9_goOn_84 : decode cX9_goOn 84 = .ok (.ifCond .eq 7, 3) := by decide +kernel
theorem dX9_goOn_87 : decode cX9_goOn 87 = .ok (.iconst 0, 1) := by decide +kernel
theorem dX9_goOn_88 : decode cX9_goOn 88 = .ok (.goto 8, 3) := by decide +kernel
theorem dX9_goOn_91 : decode cX9_goOn 91 = .ok (.aload_n 0, 1) := by decide +kernel
theorem dX9_goOn_92 : decode cX9_goOn 92 = .ok (.iload_n 3, 1) := by decide +kernel
theorem dX9_goOn_93 : decode cX9_goOn 93 = .ok (.invokevirtual 281, 3) := by decide +kernel
theorem dX9_goOn_96 : decode cX9_goOn 96 = .ok (.invokestatic 254, 3) := by decide +kernel
theorem dX9_goOn_99 : decode cX9_goOn 99 = .ok (.iastore, 1) := by decide +kernel
theorem dX9_goOn_100 : decode cX9_goOn 100 = .ok (.iinc 3 1, 3) := by decide +kernel
theorem dX9_goOn_103 : decode cX9_goOn 103 = .ok (.goto (-99), 3) := by decide +kernel
theorem dX9_goOn_106 : decode cX9_goOn 106 = .ok (.aload_n 1, 1) := by decide +kernel
theorem dX9_goOn_107 : decode cX9_goOn 107 = .ok (.iconst 0, 1) := by decide +kernel
theorem dX9_goOn_108 : decode cX9_goOn 108 = .ok (.dup2, 1) := by decide +kernel
theorem dX9_goOn_109 : decode cX9_goOn 109 = .ok (.iaload, 1) := by decide +kernel
theorem dX9_goOn_110 : decode cX9_goOn 110 = .ok (.iconst 1, 1) := by decide +kernel
theorem dX9_goOn_111 : decode cX9_goOn 111 = .ok (.iadd, 1) := by decide +kernel
theorem dX9_goOn_112 : decode cX9_goOn 112 = .ok (.iastore, 1) := by decide +kernel
theorem dX9_goOn_113 : decode cX9_goOn 113 = .ok (.aload_n 1, 1) := by decide +kernel
theorem dX9_goOn_114 : decode cX9_goOn 114 = .ok (.iconst 0, 1) := by decide +kernel
theorem dX9_goOn_115 : decode cX9_goOn 115 = .ok (.iaload, 1) := by decide +kernel
theorem dX9_goOn_116 : decode cX9_goOn 116 = .ok (.aload_n 0, 1) := by decide +kernel
theorem dX9_goOn_117 : decode cX9_goOn 117 = .ok (.getfield 216, 3) := by decide +kernel
theorem dX9_goOn_120 : decode cX9_goOn 120 = .ok (.irem, 1) := by decide +kernel
theorem dX9_goOn_121 : decode cX9_goOn 121 = .ok (.ifCond .ne 47, 3) := by decide +kernel
theorem dX9_goOn_124 : decode cX9_goOn 124 = .ok (.iconst 0, 1) := by decide +kernel
theorem dX9_goOn_125 : decode cX9_goOn 125 = .ok (.istore_n 3, 1) := by decide +kernel
theorem dX9_goOn_126 : decode cX9_goOn 126 = .ok (.iload_n 3, 1) := by decide +kernel
theorem dX9_goOn_127 : decode cX9_goOn 127 = .ok (.bipush 8, 2) := by decide +kernel
theorem dX9_goOn_129 : decode cX9_goOn 129 = .ok (.if_icmp .ge 20, 3) := by decide +kernel
theorem dX9_goOn_132 : decode cX9_goOn 132 = .ok (.aload_n 1, 1) := by decide +kernel
theorem dX9_goOn_133 : decode cX9_goOn 133 = .ok (.bipush 13, 2) := by decide +kernel
theorem dX9_goOn_135 : decode cX9_goOn 135 = .ok (.iload_n 3, 1) := by decide +kernel
theorem dX9_goOn_136 : decode cX9_goOn 136 = .ok (.iadd, 1) := by decide +kernel
theorem dX9_goOn_137 : decode cX9_goOn 137 = .ok (.aload_n 1, 1) := by decide +kernel
theorem dX9_goOn_138 : decode cX9_goOn 138 = .ok (.iconst 5, 1) := by decide +kernel
theorem dX9_goOn_139 : decode cX9_goOn 139 = .ok (.iload_n 3, 1) := by decide +kernel
theorem dX9_goOn_140 : decode cX9_goOn 140 = .ok (.iadd, 1) := by decide +kernel
theorem dX9_goOn_141 : decode cX9_goOn 141 = .ok (.iaload, 1) := by decide +kernel
theorem dX9_goOn_142 : decode cX9_goOn 142 = .ok (.iastore, 1) := by decide +kernel
theorem dX9_goOn_143 : decode cX9_goOn 143 = .ok (.iinc 3 1, 3) := by decide +kernel
theorem dX9_goOn_146 : decode cX9_goOn 146 = .ok (.goto (-20), 3) := by decide +kernel
theorem dX9_goOn_149 : decode cX9_goOn 149 = .ok (.bipush 29, 2) := by decide +kernel
theorem dX9_goOn_151 : decode cX9_goOn 151 = .ok (.istore_n 3, 1) := by decide +kernel
theorem dX9_goOn_152 : decode cX9_goOn 152 = .ok (.iload_n 3, 1) := by decide +kernel
theorem dX9_goOn_153 : decode cX9_goOn 153 = .ok (.bipush 69, 2) := by decide +kernel
theorem dX9_goOn_155 : decode cX9_goOn 155 = .ok (.if_icmp .ge 13, 3) := by decide +kernel
theorem dX9_goOn_158 : decode cX9_goOn 158 = .ok (.aload_n 1, 1) := by decide +kernel
theorem dX9_goOn_159 : decode cX9_goOn 159 = .ok (.iload_n 3, 1) := by decide +kernel
theorem dX9_goOn_160 : decode cX9_goOn 160 = .ok (.iconst 0, 1) := by decide +kernel
theorem dX9_goOn_161 : decode cX9_goOn 161 = .ok (.iastore, 1) := by decide +kernel
theorem dX9_goOn_162 : decode cX9_goOn 162 = .ok (.iinc 3 1, 3) := by decide +kernel
theorem dX9_goOn_165 : decode cX9_goOn 165 = .ok (.goto (-13), 3) := by decide +kernel
theorem dX9_goOn_168 : decode cX9_goOn 168 = .ok (.iload_n 2, 1) := by decide +kernel
theorem dX9_goOn_169 : decode cX9_goOn 169 = .ok (.ireturn, 1) := by decide +kernel
theorem dX9_day_0 : decode cX9_day 0 = .ok (.iload_n 1, 1) := by decide +kernel
theorem dX9_day_1 : decode cX9_day 1 = .ok (.i2l, 1) := by decide +kernel
theorem dX9_day_2 : decode cX9_day 2 = .ok (.lconst 1, 1) := by decide +kernel
theorem dX9_day_3 : decode cX9_day 3 = .ok (.ldc2_w 284, 3) := by decide +kernel
theorem dX9_day_6 : decode cX9_day 6 = .ok (.invokestatic 120, 3) := by decide +kernel
theorem dX9_day_9 : decode cX9_day 9 = .ok (.ifCond .ne 6, 3) := by decide +kernel
theorem dX9_day_12 : decode cX9_day 12 = .ok (.ldc 133, 2) := by decide +kernel
theorem dX9_day_14 : decode cX9_day 14 = .ok (.ireturn, 1) := by decide +kernel
theorem dX9_day_15 : decode cX9_day 15 = .ok (.aload_n 0, 1) := by decide +kernel
theorem dX9_day_16 : decode cX9_day 16 = .ok (.getfield 216, 3) := by decide +kernel
theorem dX9_day_19 : decode cX9_day 19 = .ok (.ifCond .ne 7, 3) := by decide +kernel
theorem dX9_day_22 : decode cX9_day 22 = .ok (.ldc_w 286, 3) := by decide +kernel
theorem dX9_day_25 : decode cX9_day 25 = .ok (.ireturn, 1) := by decide +kernel
theorem dX9_day_26 : decode cX9_day 26 = .ok (.aload_n 0, 1) := by decide +kernel
theorem dX9_day_27 : decode cX9_day 27 = .ok (.getfield 7, 3) := by decide +kernel
theorem dX9_day_30 : decode cX9_day 30 = .ok (.iconst 0, 1) := by decide +kernel
theorem dX9_day_31 : decode cX9_day 31 = .ok (.iaload, 1) := by decide +kernel
theorem dX9_day_32 : decode cX9_day 32 = .ok (.sipush 9000, 3) := by decide +kernel
theorem dX9_day_35 : decode cX9_day 35 = .ok (.if_icmp .le 6, 3) := by decide +kernel
theorem dX9_day_38 : decode cX9_day 38 = .ok (.ldc 137, 2) := by decide +kernel
theorem dX9_day_40 : decode cX9_day 40 = .ok (.ireturn, 1) := by decide +kernel
theorem dX9_day_41 : decode cX9_day 41 = .ok (.aload_n 0, 1) := by decide +kernel
theorem dX9_day_42 : decode cX9_day 42 = .ok (.invokevirtual 287, 3) := by decide +kernel
theorem dX9_day_45 : decode cX9_day 45 = .ok (.iconst 0, 1) := by decide +kernel
theorem dX9_day_46 : decode cX9_day 46 = .ok (.istore_n 2, 1) := by decide +kernel
theorem dX9_day_47 : decode cX9_day 47 = .ok (.iload_n 2, 1) := by decide +kernel
theorem dX9_day_48 : decode cX9_day 48 = .ok (.iload_n 1, 1) := by decide +kernel
theorem dX9_day_49 : decode cX9_day 49 = .ok (.if_icmp .ge 18, 3) := by decide +kernel
theorem dX9_day_52 : decode cX9_day 52 = .ok (.aload_n 0, 1) := by decide +kernel
theorem dX9_day_53 : decode cX9_day 53 = .ok (.aload_n 0, 1) := by decide +kernel
theorem dX9_day_54 : decode cX9_day 54 = .ok (.getfield 7, 3) := by decide +kernel
theorem dX9_day_57 : decode cX9_day 57 = .ok (.invokevirtual 290, 3) := by decide +kernel
theorem dX9_day_60 : decode cX9_day 60 = .ok (.istore_n 3, 1) := by decide +kernel
theorem dX9_day_61 : decode cX9_day 61 = .ok (.iinc 2 1, 3) := by decide +kernel
theorem dX9_day_64 : decode cX9_day 64 = .ok (.goto (-17), 3) := by decide +kernel
theorem dX9_day_67 : decode cX9_day 67 = .ok (.aload_n 0, 1) := by decide +kernel
theorem dX9_day_68 : decode cX9_day 68 = .ok (.getfield 7, 3) := by decide +kernel
theorem dX9_day_71 : decode cX9_day 71 = .ok (.iconst 0, 1) := by decide +kernel
theorem dX9_day_72 : decode cX9_day 72 = .ok (.iaload, 1) := by decide +kernel
theorem dX9_day_73 : decode cX9_day 73 = .ok (.ireturn, 1) := by decide +kernel
theorem dX9_say_0 : decode cX9_say 0 = .ok (.aload_n 0, 1) := by decide +kernel
theorem dX9_say_1 : decode cX9_say 1 = .ok (.iload_n 1, 1) := by decide +kernel
theorem dX9_say_2 : decode cX9_say 2 = .ok (.invokevirtual 243, 3) := by decide +kernel
theorem dX9_say_5 : decode cX9_say 5 = .ok (.ifCond .eq 11, 3) := by decide +kernel
theorem dX9_say_8 : decode cX9_say 8 = .ok (.aload_n 0, 1) := by decide +kernel
theorem dX9_say_9 : decode cX9_say 9 = .ok (.iload_n 2, 1) := by decide +kernel
theorem dX9_say_10 : decode cX9_say 10 = .ok (.invokevirtual 235, 3) := by decide +kernel
theorem dX9_say_13 : decode cX9_say 13 = .ok (.ifCond .ne 6, 3) := by decide +kernel
theorem dX9_say_16 : decode cX9_say 16 = .ok (.ldc 238, 2) := by decide +kernel
theorem dX9_say_18 : decode cX9_say 18 = .ok (.ireturn, 1) := by decide +kernel
theorem dX9_say_19 : decode cX9_say 19 = .ok (.aload_n 0, 1) := by decide +kernel
theorem dX9_say_20 : decode cX9_say 20 = .ok (.getfield 7, 3) := by decide +kernel
theorem dX9_say_23 : decode cX9_say 23 = .ok (.iload_n 1, 1) := by decide +kernel
theorem dX9_say_24 : decode cX9_say 24 = .ok (.iload_n 2, 1) := by decide +kernel
theorem dX9_say_25 : decode cX9_say 25 = .ok (.invokestatic 257, 3) := by decide +kernel
theorem dX9_say_28 : decode cX9_say 28 = .ok (.ifCond .ne 7, 3) := by decide +kernel
theorem dX9_say_31 : decode cX9_say 31 = .ok (.ldc_w 286, 3) := by decide +kernel
theorem dX9_say_34 : decode cX9_say 34 = .ok (.ireturn, 1) := by decide +kernel
theorem dX9_say_35 : decode cX9_say 35 = .ok (.aload_n 0, 1) := by decide +kernel
theorem dX9_say_36 : decode cX9_say 36 = .ok (.invokevirtual 287, 3) := by decide +kernel
theorem dX9_say_39 : decode cX9_say 39 = .ok (.aload_n 0, 1) := by decide +kernel
theorem dX9_say_40 : decode cX9_say 40 = .ok (.getfield 7, 3) := by decide +kernel
theorem dX9_say_43 : decode cX9_say 43 = .ok (.iload_n 1, 1) := by decide +kernel
theorem dX9_say_44 : decode cX9_say 44 = .ok (.iload_n 2, 1) := by decide +kernel
theorem dX9_say_45 : decode cX9_say 45 = .ok (.invokestatic 261, 3) := by decide +kernel
theorem dX9_say_48 : decode cX9_say 48 = .ok (.aload_n 0, 1) := by decide +kernel
theorem dX9_say_49 : decode cX9_say 49 = .ok (.getfield 7, 3) := by decide +kernel
theorem dX9_say_52 : decode cX9_say 52 = .ok (.bipush 29, 2) := by decide +kernel
theorem dX9_say_54 : decode cX9_say 54 = .ok (.bipush 8, 2) := by decide +kernel
theorem dX9_say_56 : decode cX9_say 56 = .ok (.iload_n 1, 1) := by decide +kernel
theorem dX9_say_57 : decode cX9_say 57 = .ok (.imul, 1) := by decide +kernel
theorem dX9_say_58 : decode cX9_say 58 = .ok (.iadd, 1) := by decide +kernel
theorem dX9_say_59 : decode cX9_say 59 = .ok (.iload_n 2, 1) := by decide +kernel
theorem dX9_say_60 : decode cX9_say 60 = .ok (.iadd, 1) := by decide +kernel
theorem dX9_say_61 : decode cX9_say 61 = .ok (.iaload, 1) := by decide +kernel
theorem dX9_say_62 : decode cX9_say 62 = .ok (.aload_n 0, 1) := by decide +kernel
theorem dX9_say_63 : decode cX9_say 63 = .ok (.getfield 7, 3) := by decide +kernel
theorem dX9_say_66 : decode cX9_say 66 = .ok (.bipush 13, 2) := by decide +kernel
theorem dX9_say_68 : decode cX9_say 68 = .ok (.iload_n 2, 1) := by decide +kernel
theorem dX9_say_69 : decode cX9_say 69 = .ok (.iadd, 1) := by decide +kernel
theorem dX9_say_70 : decode cX9_say 70 = .ok (.iaload, 1) := by decide +kernel
theorem dX9_say_71 : decode cX9_say 71 = .ok (.iadd, 1) := by decide +kernel
theorem dX9_say_72 : decode cX9_say 72 = .ok (.ireturn, 1) := by decide +kernel
theorem dX9_around_0 : decode cX9_around 0 = .ok (.aload_n 0, 1) := by decide +kernel
theorem dX9_around_1 : decode cX9_around 1 = .ok (.iload_n 1, 1) := by decide +kernel
theorem dX9_around_2 : decode cX9_around 2 = .ok (.invokevirtual 243, 3) := by decide +kernel
theorem dX9_around_5 : decode cX9_around 5 = .ok (.ifCond .eq 11, 3) := by decide +kernel
theorem dX9_around_8 : decode cX9_around 8 = .ok (.aload_n 0, 1) := by decide +kernel
theorem dX9_around_9 : decode cX9_around 9 = .ok (.iload_n 2, 1) := by decide +kernel
theorem dX9_around_10 : decode cX9_around 10 = .ok (.invokevirtual 235, 3) := by decide +kernel
theorem dX9_around_13 : decode cX9_around 13 = .ok (.ifCond .ne 6, 3) := by decide +kernel
theorem dX9_around_16 : decode cX9_around 16 = .ok (.ldc 238, 2) := by decide +kernel
theorem dX9_around_18 : decode cX9_around 18 = .ok (.ireturn, 1) := by decide +kernel
theorem dX9_around_19 : decode cX9_around 19 = .ok (.iload_n 3, 1) := by decide +kernel
theorem dX9_around_20 : decode cX9_around 20 = .ok (.i2l, 1) := by decide +kernel
theorem dX9_around_21 : decode cX9_around 21 = .ok (.lconst 0, 1) := by decide +kernel
theorem dX9_around_22 : decode cX9_around 22 = .ok (.lconst 1, 1) := by decide +kernel
theorem dX9_around_23 : decode cX9_around 23 = .ok (.invokestatic 120, 3) := by decide +kernel
theorem dX9_around_26 : decode cX9_around 26 = .ok (.ifCond .ne 6, 3) := by decide +kernel
theorem dX9_around_29 : decode cX9_around 29 = .ok (.ldc 133, 2) := by decide +kernel
theorem dX9_around_31 : decode cX9_around 31 = .ok (.ireturn, 1) := by decide +kernel
theorem dX9_around_32 : decode cX9_around 32 = .ok (.aload_n 0, 1) := by decide +kernel
theorem dX9_around_33 : decode cX9_around 33 = .ok (.getfield 25, 3) := by decide +kernel
theorem dX9_around_36 : decode cX9_around 36 = .ok (.iconst 2, 1) := by decide +kernel
theorem dX9_around_37 : decode cX9_around 37 = .ok (.iload_n 2, 1) := by decide +kernel
theorem dX9_around_38 : decode cX9_around 38 = .ok (.imul, 1) := by decide +kernel
theorem dX9_around_39 : decode cX9_around 39 = .ok (.iload_n 3, 1) := by decide +kernel
theorem dX9_around_40 : decode cX9_around 40 = .ok (.iadd, 1) := by decide +kernel
theorem dX9_around_41 : decode cX9_around 41 = .ok (.iaload, 1) := by decide +kernel
theorem dX9_around_42 : decode cX9_around 42 = .ok (.istore 4, 2) := by decide +kernel
theorem dX9_around_44 : decode cX9_around 44 = .ok (.aload_n 0, 1) := by decide +kernel
theorem dX9_around_45 : decode cX9_around 45 = .ok (.getfield 7, 3) := by decide +kernel
theorem dX9_around_48 : decode cX9_around 48 = .ok (.iload_n 1, 1) := by decide +kernel
theorem dX9_around_49 : decode cX9_around 49 = .ok (.iload 4, 2) := by decide +kernel
theorem dX9_around_51 : decode cX9_around 51 = .ok (.invokestatic 271, 3) := by decide +kernel
theorem dX9_around_54 : decode cX9_around 54 = .ok (.ifCond .ne 7, 3) := by decide +kernel
theorem dX9_around_57 : decode cX9_around 57 = .ok (.ldc_w 286, 3) := by decide +kernel
theorem dX9_around_60 : decode cX9_around 60 = .ok (.ireturn, 1) := by decide +kernel
theorem dX9_around_61 : decode cX9_around 61 = .ok (.aload_n 0, 1) := by decide +kernel
theorem dX9_around_62 : decode cX9_around 62 = .ok (.invokevirtual 287, 3) := by decide +kernel
theorem dX9_around_65 : decode cX9_around 65 = .ok (.aload_n 0, 1) := by decide +kernel
theorem dX9_around_66 : decode cX9_around 66 = .ok (.getfield 7, 3) := by decide +kernel
theorem dX9_around_69 : decode cX9_around 69 = .ok (.iload_n 1, 1) := by decide +kernel
theorem dX9_around_70 : decode cX9_around 70 = .ok (.iload 4, 2) := by decide +kernel
theorem dX9_around_72 : decode cX9_around 72 = .ok (.invokestatic 274, 3) := by decide +kernel
theorem dX9_around_75 : decode cX9_around 75 = .ok (.iload 4, 2) := by decide +kernel
theorem dX9_around_77 : decode cX9_around 77 = .ok (.ireturn, 1) := by decide +kernel
theorem dX9_point_0 : decode cX9_point 0 = .ok (.aload_n 0, 1) := by decide +kernel
theorem dX9_point_1 : decode cX9_point 1 = .ok (.iload_n 1, 1) := by decide +kernel
theorem dX9_point_2 : decode cX9_point 2 = .ok (.invokevirtual 235, 3) := by decide +kernel
theorem dX9_point_5 : decode cX9_point 5 = .ok (.ifCond .ne 6, 3) := by decide +kernel
theorem dX9_point_8 : decode cX9_point 8 = .ok (.ldc 238, 2) := by decide +kernel
theorem dX9_point_10 : decode cX9_point 10 = .ok (.ireturn, 1) := by decide +kernel
theorem dX9_point_11 : decode cX9_point 11 = .ok (.aload_n 0, 1) := by decide +kernel
theorem dX9_point_12 : decode cX9_point 12 = .ok (.getfield 28, 3) := by decide +kernel
theorem dX9_point_15 : decode cX9_point 15 = .ok (.iload_n 1, 1) := by decide +kernel
theorem dX9_point_16 : decode cX9_point 16 = .ok (.baload, 1) := by decide +kernel
theorem dX9_point_17 : decode cX9_point 17 = .ok (.ifCond .ne 7, 3) := by decide +kernel
theorem dX9_point_20 : decode cX9_point 20 = .ok (.ldc_w 286, 3) := by decide +kernel
theorem dX9_point_23 : decode cX9_point 23 = .ok (.ireturn, 1) := by decide +kernel
theorem dX9_point_24 : decode cX9_point 24 = .ok (.aload_n 0, 1) := by decide +kernel
theorem dX9_point_25 : decode cX9_point 25 = .ok (.invokevirtual 287, 3) := by decide +kernel
theorem dX9_point_28 : decode cX9_point 28 = .ok (.aload_n 0, 1) := by decide +kernel
theorem dX9_point_29 : decode cX9_point 29 = .ok (.getfield 7, 3) := by decide +kernel
theorem dX9_point_32 : decode cX9_point 32 = .ok (.iconst 4, 1) := by decide +kernel
theorem dX9_point_33 : decode cX9_point 33 = .ok (.aload_n 0, 1) := by decide +kernel
theorem dX9_point_34 : decode cX9_point 34 = .ok (.getfield 7, 3) := by decide +kernel
theorem dX9_point_37 : decode cX9_point 37 = .ok (.iconst 4, 1) := by decide +kernel
theorem dX9_point_38 : decode cX9_point 38 = .ok (.iaload, 1) := by decide +kernel
theorem dX9_point_39 : decode cX9_point 39 = .ok (.iconst 1, 1) := by decide +kernel
theorem dX9_point_40 : decode cX9_point 40 = .ok (.invokestatic 254, 3) := by decide +kernel
theorem dX9_point_43 : decode cX9_point 43 = .ok (.iastore, 1) := by decide +kernel
theorem dX9_point_44 : decode cX9_point 44 = .ok (.aload_n 0, 1) := by decide +kernel
theorem dX9_point_45 : decode cX9_point 45 = .ok (.getfield 7, 3) := by decide +kernel
theorem dX9_point_48 : decode cX9_point 48 = .ok (.iconst 4, 1) := by decide +kernel
theorem dX9_point_49 : decode cX9_point 49 = .ok (.iaload, 1) := by decide +kernel
theorem dX9_point_50 : decode cX9_point 50 = .ok (.ireturn, 1) := by decide +kernel
theorem dX9_hoard_0 : decode cX9_hoard 0 = .ok (.aload_n 0, 1) := by decide +kernel
theorem dX9_hoard_1 : decode cX9_hoard 1 = .ok (.iload_n 1, 1) := by decide +kernel
theorem dX9_hoard_2 : decode cX9_hoard 2 = .ok (.invokevirtual 243, 3) := by decide +kernel
theorem dX9_hoard_5 : decode cX9_hoard 5 = .ok (.ifCond .eq 11, 3) := by decide +kernel
theorem dX9_hoard_8 : decode cX9_hoard 8 = .ok (.aload_n 0, 1) := by decide +kernel
theorem dX9_hoard_9 : decode cX9_hoard 9 = .ok (.iload_n 2, 1) := by decide +kernel
theorem dX9_hoard_10 : decode cX9_hoard 10 = .ok (.invokevirtual 235, 3) := by decide +kernel
theorem dX9_hoard_13 : decode cX9_hoard 13 = .ok (.ifCond .ne 6, 3) := by decide +kernel
theorem dX9_hoard_16 : decode cX9_hoard 16 = .ok (.ldc 238, 2) := by decide +kernel
theorem dX9_hoard_18 : decode cX9_hoard 18 = .ok (.ireturn, 1) := by decide +kernel
theorem dX9_hoard_19 : decode cX9_hoard 19 = .ok (.iload_n 3, 1) := by decide +kernel
theorem dX9_hoard_20 : decode cX9_hoard 20 = .ok (.i2l, 1) := by decide +kernel
theorem dX9_hoard_21 : decode cX9_hoard 21 = .ok (.lconst 1, 1) := by decide +kernel
theorem dX9_hoard_22 : decode cX9_hoard 22 = .ok (.ldc2_w 294, 3) := by decide +kernel
theorem dX9_hoard_25 : decode cX9_hoard 25 = .ok (.invokestatic 120, 3) := by decide +kernel
theorem dX9_hoard_28 : decode cX9_hoard 28 = .ok (.ifCond .ne 6, 3) := by decide +kernel
theorem dX9_hoard_31 : decode cX9_hoard 31 = .ok (.ldc 133, 2) := by decide +kernel
theorem dX9_hoard_33 : decode cX9_hoard 33 = .ok (.ireturn, 1) := by decide +kernel
theorem dX9_hoard_34 : decode cX9_hoard 34 = .ok (.aload_n 0, 1) := by decide +kernel
theorem dX9_hoard_35 : decode cX9_hoard 35 = .ok (.getfield 7, 3) := by decide +kernel
theorem dX9_hoard_38 : decode cX9_hoard 38 = .ok (.bipush 13, 2) := by decide +kernel
theorem dX9_hoard_40 : decode cX9_hoard 40 = .ok (.iload_n 2, 1) := by decide +kernel
theorem dX9_hoard_41 : decode cX9_hoard 41 = .ok (.iadd, 1) := by decide +kernel
theorem dX9_hoard_42 : decode cX9_hoard 42 = .ok (.iaload, 1) := by decide +kernel
theorem dX9_hoard_43 : decode cX9_hoard 43 = .ok (.iload_n 3, 1) := by decide +kernel
theorem dX9_hoard_44 : decode cX9_hoard 44 = .ok (.if_icmp .ge 7, 3) := by decide +kernel
theorem dX9_hoard_47 : decode cX9_hoard 47 = .ok (.ldc_w 286, 3) := by decide +kernel
theorem dX9_hoard_50 : decode cX9_hoard 50 = .ok (.ireturn, 1) := by decide +kernel
theorem dX9_hoard_51 : decode cX9_hoard 51 = .ok (.aload_n 0, 1) := by decide +kernel
theorem dX9_hoard_52 : decode cX9_hoard 52 = .ok (.invokevirtual 287, 3) := by decide +kernel
theorem dX9_hoard_55 : decode cX9_hoard 55 = .ok (.aload_n 0, 1) := by decide +kernel
theorem dX9_hoard_56 : decode cX9_hoard 56 = .ok (.getfield 7, 3) := by decide +kernel
theorem dX9_hoard_59 : decode cX9_hoard 59 = .ok (.bipush 13, 2) := by decide +kernel
theorem dX9_hoard_61 : decode cX9_hoard 61 = .ok (.iload_n 2, 1) := by decide +kernel
theorem dX9_hoard_62 : decode cX9_hoard 62 = .ok (.iadd, 1) := by decide +kernel
theorem dX9_hoard_63 : decode cX9_hoard 63 = .ok (.dup2, 1) := by decide +kernel
theorem dX9_hoard_64 : decode cX9_hoard 64 = .ok (.iaload, 1) := by decide +kernel
theorem dX9_hoard_65 : decode cX9_hoard 65 = .ok (.iload_n 3, 1) := by decide +kernel
theorem dX9_hoard_66 : decode cX9_hoard 66 = .ok (.isub, 1) := by decide +kernel
theorem dX9_hoard_67 : decode cX9_hoard 67 = .ok (.iastore, 1) := by decide +kernel
theorem dX9_hoard_68 : decode cX9_hoard 68 = .ok (.aload_n 0, 1) := by decide +kernel
theorem dX9_hoard_69 : decode cX9_hoard 69 = .ok (.getfield 7, 3) := by decide +kernel
theorem dX9_hoard_72 : decode cX9_hoard 72 = .ok (.bipush 29, 2) := by decide +kernel
theorem dX9_hoard_74 : decode cX9_hoard 74 = .ok (.bipush 8, 2) := by decide +kernel
theorem dX9_hoard_76 : decode cX9_hoard 76 = .ok (.iload_n 1, 1) := by decide +kernel
theorem dX9_hoard_77 : decode cX9_hoard 77 = .ok (.imul, 1) := by decide +kernel
theorem dX9_hoard_78 : decode cX9_hoard 78 = .ok (.iadd, 1) := by decide +kernel
theorem dX9_hoard_79 : decode cX9_hoard 79 = .ok (.iload_n 2, 1) := by decide +kernel
theorem dX9_hoard_80 : decode cX9_hoard 80 = .ok (.iadd, 1) := by decide +kernel
theorem dX9_hoard_81 : decode cX9_hoard 81 = .ok (.dup2, 1) := by decide +kernel
theorem dX9_hoard_82 : decode cX9_hoard 82 = .ok (.iaload, 1) := by decide +kernel
theorem dX9_hoard_83 : decode cX9_hoard 83 = .ok (.iload_n 3, 1) := by decide +kernel
theorem dX9_hoard_84 : decode cX9_hoard 84 = .ok (.iadd, 1) := by decide +kernel
theorem dX9_hoard_85 : decode cX9_hoard 85 = .ok (.iastore, 1) := by decide +kernel
theorem dX9_hoard_86 : decode cX9_hoard 86 = .ok (.aload_n 0, 1) := by decide +kernel
theorem dX9_hoard_87 : decode cX9_hoard 87 = .ok (.getfield 7, 3) := by decide +kernel
theorem dX9_hoard_90 : decode cX9_hoard 90 = .ok (.bipush 29, 2) := by decide +kernel
theorem dX9_hoard_92 : decode cX9_hoard 92 = .ok (.bipush 8, 2) := by decide +kernel
theorem dX9_hoard_94 : decode cX9_hoard 94 = .ok (.iload_n 1, 1) := by decide +kernel
theorem dX9_hoard_95 : decode cX9_hoard 95 = .ok (.imul, 1) := by decide +kernel
theorem dX9_hoard_96 : decode cX9_hoard 96 = .ok (.iadd, 1) := by decide +kernel
theorem dX9_hoard_97 : decode cX9_hoard 97 = .ok (.iload_n 2, 1) := by decide +kernel
theorem dX9_hoard_98 : decode cX9_hoard 98 = .ok (.iadd, 1) := by decide +kernel
theorem dX9_hoard_99 : decode cX9_hoard 99 = .ok (.iaload, 1) := by decide +kernel
theorem dX9_hoard_100 : decode cX9_hoard 100 = .ok (.ireturn, 1) := by decide +kernel
theorem dX9_sell_0 : decode cX9_sell 0 = .ok (.aload_n 0, 1) := by decide +kernel
theorem dX9_sell_1 : decode cX9_sell 1 = .ok (.iload_n 1, 1) := by decide +kernel
theorem dX9_sell_2 : decode cX9_sell 2 = .ok (.invokevirtual 243, 3) := by decide +kernel
theorem dX9_sell_5 : decode cX9_sell 5 = .ok (.ifCond .eq 24, 3) := by decide +kernel
theorem dX9_sell_8 : decode cX9_sell 8 = .ok (.aload_n 0, 1) := by decide +kernel
theorem dX9_sell_9 : decode cX9_sell 9 = .ok (.iload_n 2, 1) := by decide +kernel
theorem dX9_sell_10 : decode cX9_sell 10 = .ok (.invokevirtual 243, 3) := by decide +kernel
theorem dX9_sell_13 : decode cX9_sell 13 = .ok (.ifCond .eq 16, 3) := by decide +kernel
theorem dX9_sell_16 : decode cX9_sell 16 = .ok (.iload_n 1, 1) := by decide +kernel
theorem dX9_sell_17 : decode cX9_sell 17 = .ok (.iload_n 2, 1) := by decide +kernel
theorem dX9_sell_18 : decode cX9_sell 18 = .ok (.if_icmp .eq 11, 3) := by decide +kernel
theorem dX9_sell_21 : decode cX9_sell 21 = .ok (.aload_n 0, 1) := by decide +kernel
theorem dX9_sell_22 : decode cX9_sell 22 = .ok (.iload_n 3, 1) := by decide +kernel
theorem dX9_sell_23 : decode cX9_sell 23 = .ok (.invokevirtual 235, 3) := by decide +kernel
theorem dX9_sell_26 : decode cX9_sell 26 = .ok (.ifCond .ne 6, 3) := by decide +kernel
theorem dX9_sell_29 : decode cX9_sell 29 = .ok (.ldc 238, 2) := by decide +kernel
theorem dX9_sell_31 : decode cX9_sell 31 = .ok (.ireturn, 1) := by decide +kernel
theorem dX9_sell_32 : decode cX9_sell 32 = .ok (.iload 4, 2) := by decide +kernel
theorem dX9_sell_34 : decode cX9_sell 34 = .ok (.i2l, 1) := by decide +kernel
theorem dX9_sell_35 : decode cX9_sell 35 = .ok (.lconst 1, 1) := by decide +kernel
theorem dX9_sell_36 : decode cX9_sell 36 = .ok (.ldc2_w 294, 3) := by decide +kernel
theorem dX9_sell_39 : decode cX9_sell 39 = .ok (.invokestatic 120, 3) := by decide +kernel
theorem dX9_sell_42 : decode cX9_sell 42 = .ok (.ifCond .ne 6, 3) := by decide +kernel
theorem dX9_sell_45 : decode cX9_sell 45 = .ok (.ldc 133, 2) := by decide +kernel
theorem dX9_sell_47 : decode cX9_sell 47 = .ok (.ireturn, 1) := by decide +kernel
theorem dX9_sell_48 : decode cX9_sell 48 = .ok (.aload_n 0, 1) := by decide +kernel
theorem dX9_sell_49 : decode cX9_sell 49 = .ok (.getfield 7, 3) := by decide +kernel
theorem dX9_sell_52 : decode cX9_sell 52 = .ok (.bipush 29, 2) := by decide +kernel
theorem dX9_sell_54 : decode cX9_sell 54 = .ok (.bipush 8, 2) := by decide +kernel
theorem dX9_sell_56 : decode cX9_sell 56 = .ok (.iload_n 1, 1) := by decide +kernel
theorem dX9_sell_57 : decode cX9_sell 57 = .ok (.imul, 1) := by decide +kernel
theorem dX9_sell_58 : decode cX9_sell 58 = .ok (.iadd, 1) := by decide +kernel
theorem dX9_sell_59 : decode cX9_sell 59 = .ok (.iload_n 3, 1) := by decide +kernel
theorem dX9_sell_60 : decode cX9_sell 60 = .ok (.iadd, 1) := by decide +kernel
theorem dX9_sell_61 : decode cX9_sell 61 = .ok (.iaload, 1) := by decide +kernel
theorem dX9_sell_62 : decode cX9_sell 62 = .ok (.iload 4, 2) := by decide +kernel
theorem dX9_sell_64 : decode cX9_sell 64 = .ok (.if_icmp .ge 7, 3) := by decide +kernel
theorem dX9_sell_67 : decode cX9_sell 67 = .ok (.ldc_w 286, 3) := by decide +kernel
theorem dX9_sell_70 : decode cX9_sell 70 = .ok (.ireturn, 1) := by decide +kernel
theorem dX9_sell_71 : decode cX9_sell 71 = .ok (.aload_n 0, 1) := by decide +kernel
theorem dX9_sell_72 : decode cX9_sell 72 = .ok (.invokevirtual 287, 3) := by decide +kernel
theorem dX9_sell_75 : decode cX9_sell 75 = .ok (.aload_n 0, 1) := by decide +kernel
theorem dX9_sell_76 : decode cX9_sell 76 = .ok (.getfield 7, 3) := by decide +kernel
theorem dX9_sell_79 : decode cX9_sell 79 = .ok (.bipush 29, 2) := by decide +kernel
theorem dX9_sell_81 : decode cX9_sell 81 = .ok (.bipush 8, 2) := by decide +kernel
theorem dX9_sell_83 : decode cX9_sell 83 = .ok (.iload_n 1, 1) := by decide +kernel
theorem dX9_sell_84 : decode cX9_sell 84 = .ok (.imul, 1) := by decide +kernel
theorem dX9_sell_85 : decode cX9_sell 85 = .ok (.iadd, 1) := by decide +kernel
theorem dX9_sell_86 : decode cX9_sell 86 = .ok (.iload_n 3, 1) := by decide +kernel
theorem dX9_sell_87 : decode cX9_sell 87 = .ok (.iadd, 1) := by decide +kernel
theorem dX9_sell_88 : decode cX9_sell 88 = .ok (.dup2, 1) := by decide +kernel
theorem dX9_sell_89 : decode cX9_sell 89 = .ok (.iaload, 1) := by decide +kernel
theorem dX9_sell_90 : decode cX9_sell 90 = .ok (.iload 4, 2) := by decide +kernel
theorem dX9_sell_92 : decode cX9_sell 92 = .ok (.isub, 1) := by decide +kernel
theorem dX9_sell_93 : decode cX9_sell 93 = .ok (.iastore, 1) := by decide +kernel
theorem dX9_sell_94 : decode cX9_sell 94 = .ok (.aload_n 0, 1) := by decide +kernel
theorem dX9_sell_95 : decode cX9_sell 95 = .ok (.getfield 7, 3) := by decide +kernel
theorem dX9_sell_98 : decode cX9_sell 98 = .ok (.bipush 29, 2) := by decide +kernel
theorem dX9_sell_100 : decode cX9_sell 100 = .ok (.bipush 8, 2) := by decide +kernel
theorem dX9_sell_102 : decode cX9_sell 102 = .ok (.iload_n 2, 1) := by decide +kernel
theorem dX9_sell_103 : decode cX9_sell 103 = .ok (.imul, 1) := by decide +kernel
theorem dX9_sell_104 : decode cX9_sell 104 = .ok (.iadd, 1) := by decide +kernel
theorem dX9_sell_105 : decode cX9_sell 105 = .ok (.iload_n 3, 1) := by decide +kernel
theorem dX9_sell_106 : decode cX9_sell 106 = .ok (.iadd, 1) := by decide +kernel
theorem dX9_sell_107 : decode cX9_sell 107 = .ok (.dup2, 1) := by decide +kernel
theorem dX9_sell_108 : decode cX9_sell 108 = .ok (.iaload, 1) := by decide +kernel
theorem dX9_sell_109 : decode cX9_sell 109 = .ok (.iload 4, 2) := by decide +kernel
theorem dX9_sell_111 : decode cX9_sell 111 = .ok (.iadd, 1) := by decide +kernel
theorem dX9_sell_112 : decode cX9_sell 112 = .ok (.iastore, 1) := by decide +kernel
theorem dX9_sell_113 : decode cX9_sell 113 = .ok (.aload_n 0, 1) := by decide +kernel
theorem dX9_sell_114 : decode cX9_sell 114 = .ok (.getfield 7, 3) := by decide +kernel
theorem dX9_sell_117 : decode cX9_sell 117 = .ok (.bipush 29, 2) := by decide +kernel
theorem dX9_sell_119 : decode cX9_sell 119 = .ok (.bipush 8, 2) := by decide +kernel
theorem dX9_sell_121 : decode cX9_sell 121 = .ok (.iload_n 2, 1) := by decide +kernel
theorem dX9_sell_122 : decode cX9_sell 122 = .ok (.imul, 1) := by decide +kernel
theorem dX9_sell_123 : decode cX9_sell 123 = .ok (.iadd, 1) := by decide +kernel
theorem dX9_sell_124 : decode cX9_sell 124 = .ok (.iload_n 3, 1) := by decide +kernel
theorem dX9_sell_125 : decode cX9_sell 125 = .ok (.iadd, 1) := by decide +kernel
theorem dX9_sell_126 : decode cX9_sell 126 = .ok (.iaload, 1) := by decide +kernel
theorem dX9_sell_127 : decode cX9_sell 127 = .ok (.ireturn, 1) := by decide +kernel
theorem dX9_raise_0 : decode cX9_raise 0 = .ok (.aload_n 0, 1) := by decide +kernel
theorem dX9_raise_1 : decode cX9_raise 1 = .ok (.iload_n 1, 1) := by decide +kernel
theorem dX9_raise_2 : decode cX9_raise 2 = .ok (.invokevirtual 235, 3) := by decide +kernel
theorem dX9_raise_5 : decode cX9_raise 5 = .ok (.ifCond .ne 6, 3) := by decide +kernel
theorem dX9_raise_8 : decode cX9_raise 8 = .ok (.ldc 238, 2) := by decide +kernel
theorem dX9_raise_10 : decode cX9_raise 10 = .ok (.ireturn, 1) := by decide +kernel
theorem dX9_raise_11 : decode cX9_raise 11 = .ok (.iload_n 2, 1) := by decide +kernel
theorem dX9_raise_12 : decode cX9_raise 12 = .ok (.i2l, 1) := by decide +kernel
theorem dX9_raise_13 : decode cX9_raise 13 = .ok (.lconst 1, 1) := by decide +kernel
theorem dX9_raise_14 : decode cX9_raise 14 = .ok (.ldc2_w 294, 3) := by decide +kernel
theorem dX9_raise_17 : decode cX9_raise 17 = .ok (.invokestatic 120, 3) := by decide +kernel
theorem dX9_raise_20 : decode cX9_raise 20 = .ok (.ifCond .ne 6, 3) := by decide +kernel
theorem dX9_raise_23 : decode cX9_raise 23 = .ok (.ldc 133, 2) := by decide +kernel
theorem dX9_raise_25 : decode cX9_raise 25 = .ok (.ireturn, 1) := by decide +kernel
theorem dX9_raise_26 : decode cX9_raise 26 = .ok (.aload_n 0, 1) := by decide +kernel
theorem dX9_raise_27 : decode cX9_raise 27 = .ok (.getfield 7, 3) := by decide +kernel
theorem dX9_raise_30 : decode cX9_raise 30 = .ok (.iconst 5, 1) := by decide +kernel
theorem dX9_raise_31 : decode cX9_raise 31 = .ok (.iload_n 1, 1) := by decide +kernel
theorem dX9_raise_32 : decode cX9_raise 32 = .ok (.iadd, 1) := by decide +kernel
theorem dX9_raise_33 : decode cX9_raise 33 = .ok (.iaload, 1) := by decide +kernel
theorem dX9_raise_34 : decode cX9_raise 34 = .ok (.iload_n 2, 1) := by decide +kernel
theorem dX9_raise_35 : decode cX9_raise 35 = .ok (.iadd, 1) := by decide +kernel
theorem dX9_raise_36 : decode cX9_raise 36 = .ok (.bipush 99, 2) := by decide +kernel
theorem dX9_raise_38 : decode cX9_raise 38 = .ok (.if_icmp .le 7, 3) := by decide +kernel
theorem dX9_raise_41 : decode cX9_raise 41 = .ok (.ldc_w 286, 3) := by decide +kernel
theorem dX9_raise_44 : decode cX9_raise 44 = .ok (.ireturn, 1) := by decide +kernel
theorem dX9_raise_45 : decode cX9_raise 45 = .ok (.aload_n 0, 1) := by decide +kernel
theorem dX9_raise_46 : decode cX9_raise 46 = .ok (.invokevirtual 287, 3) := by decide +kernel
theorem dX9_raise_49 : decode cX9_raise 49 = .ok (.aload_n 0, 1) := by decide +kernel
theorem dX9_raise_50 : decode cX9_raise 50 = .ok (.getfield 7, 3) := by decide +kernel
theorem dX9_raise_53 : decode cX9_raise 53 = .ok (.iconst 5, 1) := by decide +kernel
theorem dX9_raise_54 : decode cX9_raise 54 = .ok (.iload_n 1, 1) := by decide +kernel
theorem dX9_raise_55 : decode cX9_raise 55 = .ok (.iadd, 1) := by decide +kernel
theorem dX9_raise_56 : decode cX9_raise 56 = .ok (.dup2, 1) := by decide +kernel
theorem dX9_raise_57 : decode cX9_raise 57 = .ok (.iaload, 1) := by decide +kernel
theorem dX9_raise_58 : decode cX9_raise 58 = .ok (.iload_n 2, 1) := by decide +kernel
theorem dX9_raise_59 : decode cX9_raise 59 = .ok (.iadd, 1) := by decide +kernel
theorem dX9_raise_60 : decode cX9_raise 60 = .ok (.iastore, 1) := by decide +kernel
theorem dX9_raise_61 : decode cX9_raise 61 = .ok (.aload_n 0, 1) := by decide +kernel
theorem dX9_raise_62 : decode cX9_raise 62 = .ok (.getfield 7, 3) := by decide +kernel
theorem dX9_raise_65 : decode cX9_raise 65 = .ok (.bipush 13, 2) := by decide +kernel
theorem dX9_raise_67 : decode cX9_raise 67 = .ok (.iload_n 1, 1) := by decide +kernel
theorem dX9_raise_68 : decode cX9_raise 68 = .ok (.iadd, 1) := by decide +kernel
theorem dX9_raise_69 : decode cX9_raise 69 = .ok (.dup2, 1) := by decide +kernel
theorem dX9_raise_70 : decode cX9_raise 70 = .ok (.iaload, 1) := by decide +kernel
theorem dX9_raise_71 : decode cX9_raise 71 = .ok (.iload_n 2, 1) := by decide +kernel
theorem dX9_raise_72 : decode cX9_raise 72 = .ok (.iadd, 1) := by decide +kernel
theorem dX9_raise_73 : decode cX9_raise 73 = .ok (.iastore, 1) := by decide +kernel
theorem dX9_raise_74 : decode cX9_raise 74 = .ok (.aload_n 0, 1) := by decide +kernel
theorem dX9_raise_75 : decode cX9_raise 75 = .ok (.getfield 7, 3) := by decide +kernel
theorem dX9_raise_78 : decode cX9_raise 78 = .ok (.iconst 5, 1) := by decide +kernel
theorem dX9_raise_79 : decode cX9_raise 79 = .ok (.iload_n 1, 1) := by decide +kernel
theorem dX9_raise_80 : decode cX9_raise 80 = .ok (.iadd, 1) := by decide +kernel
theorem dX9_raise_81 : decode cX9_raise 81 = .ok (.iaload, 1) := by decide +kernel
theorem dX9_raise_82 : decode cX9_raise 82 = .ok (.ireturn, 1) := by decide +kernel
theorem dX9_draw_0 : decode cX9_draw 0 = .ok (.aload_n 0, 1) := by decide +kernel
theorem dX9_draw_1 : decode cX9_draw 1 = .ok (.aload_n 0, 1) := by decide +kernel
theorem dX9_draw_2 : decode cX9_draw 2 = .ok (.getfield 296, 3) := by decide +kernel
theorem dX9_draw_5 : decode cX9_draw 5 = .ok (.i2l, 1) := by decide +kernel
theorem dX9_draw_6 : decode cX9_draw 6 = .ok (.ldc2_w 299, 3) := by decide +kernel
theorem dX9_draw_9 : decode cX9_draw 9 = .ok (.lmul, 1) := by decide +kernel
theorem dX9_draw_10 : decode cX9_draw 10 = .ok (.ldc2_w 301, 3) := by decide +kernel
theorem dX9_draw_13 : decode cX9_draw 13 = .ok (.ladd, 1) := by decide +kernel
theorem dX9_draw_14 : decode cX9_draw 14 = .ok (.ldc2_w 303, 3) := by decide +kernel
theorem dX9_draw_17 : decode cX9_draw 17 = .ok (.land, 1) := by decide +kernel
theorem dX9_draw_18 : decode cX9_draw 18 = .ok (.l2i, 1) := by decide +kernel
theorem dX9_draw_19 : decode cX9_draw 19 = .ok (.putfield 296, 3) := by decide +kernel
theorem dX9_draw_22 : decode cX9_draw 22 = .ok (.aload_n 0, 1) := by decide +kernel
theorem dX9_draw_23 : decode cX9_draw 23 = .ok (.getfield 296, 3) := by decide +kernel
theorem dX9_draw_26 : decode cX9_draw 26 = .ok (.ldc_w 305, 3) := by decide +kernel
theorem dX9_draw_29 : decode cX9_draw 29 = .ok (.idiv, 1) := by decide +kernel
theorem dX9_draw_30 : decode cX9_draw 30 = .ok (.iload_n 1, 1) := by decide +kernel
theorem dX9_draw_31 : decode cX9_draw 31 = .ok (.irem, 1) := by decide +kernel
theorem dX9_draw_32 : decode cX9_draw 32 = .ok (.ireturn, 1) := by decide +kernel
theorem dX9_drawn_0 : decode cX9_drawn 0 = .ok (.aload_n 0, 1) := by decide +kernel
theorem dX9_drawn_1 : decode cX9_drawn 1 = .ok (.aload_n 0, 1) := by decide +kernel
theorem dX9_drawn_2 : decode cX9_drawn 2 = .ok (.getfield 124, 3) := by decide +kernel
theorem dX9_drawn_5 : decode cX9_drawn 5 = .ok (.invokevirtual 306, 3) := by decide +kernel
theorem dX9_drawn_8 : decode cX9_drawn 8 = .ok (.istore_n 1, 1) := by decide +kernel
theorem dX9_drawn_9 : decode cX9_drawn 9 = .ok (.aload_n 0, 1) := by decide +kernel
theorem dX9_drawn_10 : decode cX9_drawn 10 = .ok (.aload_n 0, 1) := by decide +kernel
theorem dX9_drawn_11 : decode cX9_drawn 11 = .ok (.getfield 117, 3) := by decide +kernel
theorem dX9_drawn_14 : decode cX9_drawn 14 = .ok (.invokevirtual 306, 3) := by decide +kernel
theorem dX9_drawn_17 : decode cX9_drawn 17 = .ok (.istore_n 2, 1) := by decide +kernel
theorem dX9_drawn_18 : decode cX9_drawn 18 = .ok (.aload_n 0, 1) := by decide +kernel
theorem dX9_drawn_19 : decode cX9_drawn 19 = .ok (.iconst 4, 1) := by decide +kernel
theorem dX9_drawn_20 : decode cX9_drawn 20 = .ok (.invokevirtual 306, 3) := by decide +kernel
theorem dX9_drawn_23 : decode cX9_drawn 23 = .ok (.istore_n 3, 1) := by decide +kernel
theorem dX9_drawn_24 : decode cX9_drawn 24 = .ok (.iload_n 3, 1) := by decide +kernel
theorem dX9_drawn_25 : decode cX9_drawn 25 = .ok (.tableswitch 135 0 2 #[27, 51, 97], 27) := by decide +kernel
theorem dX9_drawn_52 : decode cX9_drawn 52 = .ok (.aload_n 0, 1) := by decide +kernel
theorem dX9_drawn_53 : decode cX9_drawn 53 = .ok (.getfield 7, 3) := by decide +kernel
theorem dX9_drawn_56 : decode cX9_drawn 56 = .ok (.iload_n 1, 1) := by decide +kernel
theorem dX9_drawn_57 : decode cX9_drawn 57 = .ok (.iload_n 2, 1) := by decide +kernel
theorem dX9_drawn_58 : decode cX9_drawn 58 = .ok (.invokestatic 257, 3) := by decide +kernel
theorem dX9_drawn_61 : decode cX9_drawn 61 = .ok (.ifCond .eq 128, 3) := by decide +kernel
theorem dX9_drawn_64 : decode cX9_drawn 64 = .ok (.aload_n 0, 1) := by decide +kernel
theorem dX9_drawn_65 : decode cX9_drawn 65 = .ok (.getfield 7, 3) := by decide +kernel
theorem dX9_drawn_68 : decode cX9_drawn 68 = .ok (.iload_n 1, 1) := by decide +kernel
theorem dX9_drawn_69 : decode cX9_drawn 69 = .ok (.iload_n 2, 1) := by decide +kernel
theorem dX9_drawn_70 : decode cX9_drawn 70 = .ok (.invokestatic 261, 3) := by decide +kernel
theorem dX9_drawn_73 : decode cX9_drawn 73 = .ok (.goto 116, 3) := by decide +kernel
theorem dX9_drawn_76 : decode cX9_drawn 76 = .ok (.aload_n 0, 1) := by decide +kernel
theorem dX9_drawn_77 : decode cX9_drawn 77 = .ok (.getfield 7, 3) := by decide +kernel
theorem dX9_drawn_80 : decode cX9_drawn 80 = .ok (.bipush 13, 2) := by decide +kernel
theorem dX9_drawn_82 : decode cX9_drawn 82 = .ok (.iload_n 2, 1) := by decide +kernel
theorem dX9_drawn_83 : decode cX9_drawn 83 = .ok (.iadd, 1) := by decide +kernel
theorem dX9_drawn_84 : decode cX9_drawn 84 = .ok (.iaload, 1) := by decide +kernel
theorem dX9_drawn_85 : decode cX9_drawn 85 = .ok (.ifCond .le 104, 3) := by decide +kernel
theorem dX9_drawn_88 : decode cX9_drawn 88 = .ok (.aload_n 0, 1) := by decide +kernel
theorem dX9_drawn_89 : decode cX9_drawn 89 = .ok (.getfield 7, 3) := by decide +kernel
theorem dX9_drawn_92 : decode cX9_drawn 92 = .ok (.bipush 13, 2) := by decide +kernel
theorem dX9_drawn_94 : decode cX9_drawn 94 = .ok (.iload_n 2, 1) := by decide +kernel
theorem dX9_drawn_95 : decode cX9_drawn 95 = .ok (.iadd, 1) := by decide +kernel
theorem dX9_drawn_96 : decode cX9_drawn 96 = .ok (.dup2, 1) := by decide +kernel
theorem dX9_drawn_97 : decode cX9_drawn 97 = .ok (.iaload, 1) := by decide +kernel
theorem dX9_drawn_98 : decode cX9_drawn 98 = .ok (.iconst 1, 1) := by decide +kernel
theorem dX9_drawn_99 : decode cX9_drawn 99 = .ok (.isub, 1) := by decide +kernel
theorem dX9_drawn_100 : decode cX9_drawn 100 = .ok (.iastore, 1) := by decide +kernel
theorem dX9_drawn_101 : decode cX9_drawn 101 = .ok (.aload_n 0, 1) := by decide +kernel
theorem dX9_drawn_102 : decode cX9_drawn 102 = .ok (.getfield 7, 3) := by decide +kernel
theorem dX9_drawn_105 : decode cX9_drawn 105 = .ok (.bipush 29, 2) := by decide +kernel
theorem dX9_drawn_107 : decode cX9_drawn 107 = .ok (.bipush 8, 2) := by decide +kernel
theorem dX9_drawn_109 : decode cX9_drawn 109 = .ok (.iload_n 1, 1) := by decide +kernel
theorem dX9_drawn_110 : decode cX9_drawn 110 = .ok (.imul, 1) := by decide +kernel
theorem dX9_drawn_111 : decode cX9_drawn 111 = .ok (.iadd, 1) := by decide +kernel
theorem dX9_drawn_112 : decode cX9_drawn 112 = .ok (.iload_n 2, 1) := by decide +kernel
theorem dX9_drawn_113 : decode cX9_drawn 113 = .ok (.iadd, 1) := by decide +kernel
theorem dX9_drawn_114 : decode cX9_drawn 114 = .ok (.dup2, 1) := by decide +kernel
theorem dX9_drawn_115 : decode cX9_drawn 115 = .ok (.iaload, 1) := by decide +kernel
theorem dX9_drawn_116 : decode cX9_drawn 116 = .ok (.iconst 1, 1) := by decide +kernel
theorem dX9_drawn_117 : decode cX9_drawn 117 = .ok (.iadd, 1) := by decide +kernel
theorem dX9_drawn_118 : decode cX9_drawn 118 = .ok (.iastore, 1) := by decide +kernel
theorem dX9_drawn_119 : decode cX9_drawn 119 = .ok (.goto 70, 3) := by decide +kernel
theorem dX9_drawn_122 : decode cX9_drawn 122 = .ok (.aload_n 0, 1) := by decide +kernel
theorem dX9_drawn_123 : decode cX9_drawn 123 = .ok (.getfield 7, 3) := by decide +kernel
theorem dX9_drawn_126 : decode cX9_drawn 126 = .ok (.iload_n 1, 1) := by decide +kernel
theorem dX9_drawn_127 : decode cX9_drawn 127 = .ok (.aload_n 0, 1) := by decide +kernel
theorem dX9_drawn_128 : decode cX9_drawn 128 = .ok (.getfield 25, 3) := by decide +kernel
theorem dX9_drawn_131 : decode cX9_drawn 131 = .ok (.iconst 2, 1) := by decide +kernel
theorem dX9_drawn_132 : decode cX9_drawn 132 = .ok (.iload_n 2, 1) := by decide +kernel
theorem dX9_drawn_133 : decode cX9_drawn 133 = .ok (.imul, 1) := by decide +kernel
theorem dX9_drawn_134 : decode cX9_drawn 134 = .ok (.iaload, 1) := by decide +kernel
theorem dX9_drawn_135 : decode cX9_drawn 135 = .ok (.invokestatic 271, 3) := by decide +kernel
theorem dX9_drawn_138 : decode cX9_drawn 138 = .ok (.ifCond .eq 51, 3) := by decide +kernel
theorem dX9_drawn_141 : decode cX9_drawn 141 = .ok (.aload_n 0, 1) := by decide +kernel
theorem dX9_drawn_142 : decode cX9_drawn 142 = .ok (.getfield 7, 3) := by decide +kernel
theorem dX9_drawn_145 : decode cX9_drawn 145 = .ok (.iload_n 1, 1) := by decide +kernel
theorem dX9_drawn_146 : decode cX9_drawn 146 = .ok (.aload_n 0, 1) := by decide +kernel
theorem dX9_drawn_147 : decode cX9_drawn 147 = .ok (.getfield 25, 3) := by decide +kernel
theorem dX9_drawn_150 : decode cX9_drawn 150 = .ok (.iconst 2, 1) := by decide +kernel
theorem dX9_drawn_151 : decode cX9_drawn 151 = .ok (.iload_n 2, 1) := by decide +kernel
theorem dX9_drawn_152 : decode cX9_drawn 152 = .ok (.imul, 1) := by decide +kernel
theorem dX9_drawn_153 : decode cX9_drawn 153 = .ok (.iaload, 1) := by decide +kernel
theorem dX9_drawn_154 : decode cX9_drawn 154 = .ok (.invokestatic 274, 3) := by decide +kernel
theorem dX9_drawn_157 : decode cX9_drawn 157 = .ok (.goto 32, 3) := by decide +kernel
theorem dX9_drawn_160 : decode cX9_drawn 160 = .ok (.aload_n 0, 1) := by decide +kernel
theorem dX9_drawn_161 : decode cX9_drawn 161 = .ok (.getfield 7, 3) := by decide +kernel
theorem dX9_drawn_164 : decode cX9_drawn 164 = .ok (.iconst 4, 1) := by decide +kernel
theorem dX9_drawn_165 : decode cX9_drawn 165 = .ok (.aload_n 0, 1) := by decide +kernel
theorem dX9_drawn_166 : decode cX9_drawn 166 = .ok (.getfield 7, 3) := by decide +kernel
theorem dX9_drawn_169 : decode cX9_drawn 169 = .ok (.iconst 4, 1) := by decide +kernel
theorem dX9_drawn_170 : decode cX9_drawn 170 = .ok (.iaload, 1) := by decide +kernel
theorem dX9_drawn_171 : decode cX9_drawn 171 = .ok (.aload_n 0, 1) := by decide +kernel
theorem dX9_drawn_172 : decode cX9_drawn 172 = .ok (.getfield 28, 3) := by decide +kernel
theorem dX9_drawn_175 : decode cX9_drawn 175 = .ok (.iload_n 2, 1) := by decide +kernel
theorem dX9_drawn_176 : decode cX9_drawn 176 = .ok (.baload, 1) := by decide +kernel
theorem dX9_drawn_177 : decode cX9_drawn 177 = .ok (.ifCond .eq 7, 3) := by decide +kernel
theorem dX9_drawn_180 : decode cX9_drawn 180 = .ok (.iconst 1, 1) := by decide +kernel
theorem dX9_drawn_181 : decode cX9_drawn 181 = .ok (.goto 4, 3) := by decide +kernel
theorem dX9_drawn_184 : decode cX9_drawn 184 = .ok (.iconst 0, 1) := by decide +kernel
theorem dX9_drawn_185 : decode cX9_drawn 185 = .ok (.invokestatic 254, 3) := by decide +kernel
theorem dX9_drawn_188 : decode cX9_drawn 188 = .ok (.iastore, 1) := by decide +kernel
theorem dX9_drawn_189 : decode cX9_drawn 189 = .ok (.return_, 1) := by decide +kernel
theorem dX9_drift_0 : decode cX9_drift 0 = .ok (.iload_n 1, 1) := by decide +kernel
theorem dX9_drift_1 : decode cX9_drift 1 = .ok (.i2l, 1) := by decide +kernel
theorem dX9_drift_2 : decode cX9_drift 2 = .ok (.lconst 1, 1) := by decide +kernel
theorem dX9_drift_3 : decode cX9_drift 3 = .ok (.ldc2_w 284, 3) := by decide +kernel
theorem dX9_drift_6 : decode cX9_drift 6 = .ok (.invokestatic 120, 3) := by decide +kernel
theorem dX9_drift_9 : decode cX9_drift 9 = .ok (.ifCond .ne 6, 3) := by decide +kernel
theorem dX9_drift_12 : decode cX9_drift 12 = .ok (.ldc 133, 2) := by decide +kernel
theorem dX9_drift_14 : decode cX9_drift 14 = .ok (.ireturn, 1) := by decide +kernel
theorem dX9_drift_15 : decode cX9_drift 15 = .ok (.aload_n 0, 1) := by decide +kernel
theorem dX9_drift_16 : decode cX9_drift 16 = .ok (.getfield 216, 3) := by decide +kernel
theorem dX9_drift_19 : decode cX9_drift 19 = .ok (.ifCond .ne 7, 3) := by decide +kernel
theorem dX9_drift_22 : decode cX9_drift 22 = .ok (.ldc_w 286, 3) := by decide +kernel
theorem dX9_drift_25 : decode cX9_drift 25 = .ok (.ireturn, 1) := by decide +kernel
theorem dX9_drift_26 : decode cX9_drift 26 = .ok (.aload_n 0, 1) := by decide +kernel
theorem dX9_drift_27 : decode cX9_drift 27 = .ok (.getfield 7, 3) := by decide +kernel
theorem dX9_drift_30 : decode cX9_drift 30 = .ok (.iconst 0, 1) := by decide +kernel
theorem dX9_drift_31 : decode cX9_drift 31 = .ok (.iaload, 1) := by decide +kernel
theorem dX9_drift_32 : decode cX9_drift 32 = .ok (.sipush 9000, 3) := by decide +kernel
theorem dX9_drift_35 : decode cX9_drift 35 = .ok (.if_icmp .le 6, 3) := by decide +kernel
theorem dX9_drift_38 : decode cX9_drift 38 = .ok (.ldc 137, 2) := by decide +kernel
theorem dX9_drift_40 : decode cX9_drift 40 = .ok (.ireturn, 1) := by decide +kernel
theorem dX9_drift_41 : decode cX9_drift 41 = .ok (.aload_n 0, 1) := by decide +kernel
theorem dX9_drift_42 : decode cX9_drift 42 = .ok (.invokevirtual 287, 3) := by decide +kernel
theorem dX9_drift_45 : decode cX9_drift 45 = .ok (.iconst 0, 1) := by decide +kernel
theorem dX9_drift_46 : decode cX9_drift 46 = .ok (.istore_n 2, 1) := by decide +kernel
theorem dX9_drift_47 : decode cX9_drift 47 = .ok (.iload_n 2, 1) := by decide +kernel
theorem dX9_drift_48 : decode cX9_drift 48 = .ok (.iload_n 1, 1) := by decide +kernel
theorem dX9_drift_49 : decode cX9_drift 49 = .ok (.if_icmp .ge 36, 3) := by decide +kernel
theorem dX9_drift_52 : decode cX9_drift 52 = .ok (.aload_n 0, 1) := by decide +kernel
theorem dX9_drift_53 : decode cX9_drift 53 = .ok (.getfield 124, 3) := by decide +kernel
theorem dX9_drift_56 : decode cX9_drift 56 = .ok (.ifCond .le 14, 3) := by decide +kernel
theorem dX9_drift_59 : decode cX9_drift 59 = .ok (.aload_n 0, 1) := by decide +kernel
theorem dX9_drift_60 : decode cX9_drift 60 = .ok (.getfield 117, 3) := by decide +kernel
theorem dX9_drift_63 : decode cX9_drift 63 = .ok (.ifCond .le 7, 3) := by decide +kernel
theorem dX9_drift_66 : decode cX9_drift 66 = .ok (.aload_n 0, 1) := by decide +kernel
theorem dX9_drift_67 : decode cX9_drift 67 = .ok (.invokevirtual 309, 3) := by decide +kernel
theorem dX9_drift_70 : decode cX9_drift 70 = .ok (.aload_n 0, 1) := by decide +kernel
theorem dX9_drift_71 : decode cX9_drift 71 = .ok (.aload_n 0, 1) := by decide +kernel
theorem dX9_drift_72 : decode cX9_drift 72 = .ok (.getfield 7, 3) := by decide +kernel
theorem dX9_drift_75 : decode cX9_drift 75 = .ok (.invokevirtual 290, 3) := by decide +kernel
theorem dX9_drift_78 : decode cX9_drift 78 = .ok (.istore_n 3, 1) := by decide +kernel
theorem dX9_drift_79 : decode cX9_drift 79 = .ok (.iinc 2 1, 3) := by decide +kernel
theorem dX9_drift_82 : decode cX9_drift 82 = .ok (.goto (-35), 3) := by decide +kernel
theorem dX9_drift_85 : decode cX9_drift 85 = .ok (.aload_n 0, 1) := by decide +kernel
theorem dX9_drift_86 : decode cX9_drift 86 = .ok (.getfield 7, 3) := by decide +kernel
theorem dX9_drift_89 : decode cX9_drift 89 = .ok (.iconst 2, 1) := by decide +kernel
theorem dX9_drift_90 : decode cX9_drift 90 = .ok (.iaload, 1) := by decide +kernel
theorem dX9_drift_91 : decode cX9_drift 91 = .ok (.ireturn, 1) := by decide +kernel
theorem dX9_undo_0 : decode cX9_undo 0 = .ok (.aload_n 0, 1) := by decide +kernel
theorem dX9_undo_1 : decode cX9_undo 1 = .ok (.getfield 219, 3) := by decide +kernel
theorem dX9_undo_4 : decode cX9_undo 4 = .ok (.ifCond .ne 7, 3) := by decide +kernel
theorem dX9_undo_7 : decode cX9_undo 7 = .ok (.ldc_w 286, 3) := by decide +kernel
theorem dX9_undo_10 : decode cX9_undo 10 = .ok (.ireturn, 1) := by decide +kernel
theorem dX9_undo_11 : decode cX9_undo 11 = .ok (.aload_n 0, 1) := by decide +kernel
theorem dX9_undo_12 : decode cX9_undo 12 = .ok (.dup, 1) := by decide +kernel
theorem dX9_undo_13 : decode cX9_undo 13 = .ok (.getfield 219, 3) := by decide +kernel
theorem dX9_undo_16 : decode cX9_undo 16 = .ok (.iconst 1, 1) := by decide +kernel
theorem dX9_undo_17 : decode cX9_undo 17 = .ok (.isub, 1) := by decide +kernel
theorem dX9_undo_18 : decode cX9_undo 18 = .ok (.putfield 219, 3) := by decide +kernel
theorem dX9_undo_21 : decode cX9_undo 21 = .ok (.iconst 0, 1) := by decide +kernel
theorem dX9_undo_22 : decode cX9_undo 22 = .ok (.istore_n 1, 1) := by decide +kernel
theorem dX9_undo_23 : decode cX9_undo 23 = .ok (.iload_n 1, 1) := by decide +kernel
theorem dX9_undo_24 : decode cX9_undo 24 = .ok (.bipush 69, 2) := by decide +kernel
theorem dX9_undo_26 : decode cX9_undo 26 = .ok (.if_icmp .ge 29, 3) := by decide +kernel
theorem dX9_undo_29 : decode cX9_undo 29 = .ok (.aload_n 0, 1) := by decide +kernel
theorem dX9_undo_30 : decode cX9_undo 30 = .ok (.getfield 7, 3) := by decide +kernel
theorem dX9_undo_33 : decode cX9_undo 33 = .ok (.iload_n 1, 1) := by decide +kernel
theorem dX9_undo_34 : decode cX9_undo 34 = .ok (.aload_n 0, 1) := by decide +kernel
theorem dX9_undo_35 : decode cX9_undo 35 = .ok (.getfield 16, 3) := by decide +kernel
theorem dX9_undo_38 : decode cX9_undo 38 = .ok (.bipush 69, 2) := by decide +kernel
theorem dX9_undo_40 : decode cX9_undo 40 = .ok (.aload_n 0, 1) := by decide +kernel
theorem dX9_undo_41 : decode cX9_undo 41 = .ok (.getfield 219, 3) := by decide +kernel
theorem dX9_undo_44 : decode cX9_undo 44 = .ok (.imul, 1) := by decide +kernel
theorem dX9_undo_45 : decode cX9_undo 45 = .ok (.iload_n 1, 1) := by decide +kernel
theorem dX9_undo_46 : decode cX9_undo 46 = .ok (.iadd, 1) := by decide +kernel
theorem dX9_undo_47 : decode cX9_undo 47 = .ok (.iaload, 1) := by decide +kernel
theorem dX9_undo_48 : decode cX9_undo 48 = .ok (.iastore, 1) := by decide +kernel
theorem dX9_undo_49 : decode cX9_undo 49 = .ok (.iinc 1 1, 3) := by decide +kernel
theorem dX9_undo_52 : decode cX9_undo 52 = .ok (.goto (-29), 3) := by decide +kernel
theorem dX9_undo_55 : decode cX9_undo 55 = .ok (.aload_n 0, 1) := by decide +kernel
theorem dX9_undo_56 : decode cX9_undo 56 = .ok (.getfield 219, 3) := by decide +kernel
theorem dX9_undo_59 : decode cX9_undo 59 = .ok (.ireturn, 1) := by decide +kernel
theorem dX9_layTried_0 : decode cX9_layTried 0 = .ok (.iconst 0, 1) := by decide +kernel
theorem dX9_layTried_1 : decode cX9_layTried 1 = .ok (.istore_n 1, 1) := by decide +kernel
theorem dX9_layTried_2 : decode cX9_layTried 2 = .ok (.iload_n 1, 1) := by decide +kernel
theorem dX9_layTried_3 : decode cX9_layTried 3 = .ok (.bipush 69, 2) := by decide +kernel
theorem dX9_layTried_5 : decode cX9_layTried 5 = .ok (.if_icmp .ge 21, 3) := by decide +kernel
theorem dX9_layTried_8 : decode cX9_layTried 8 = .ok (.aload_n 0, 1) := by decide +kernel
theorem dX9_layTried_9 : decode cX9_layTried 9 = .ok (.getfield 13, 3) := by decide +kernel
theorem dX9_layTried_12 : decode cX9_layTried 12 = .ok (.iload_n 1, 1) := by decide +kernel
theorem dX9_layTried_13 : decode cX9_layTried 13 = .ok (.aload_n 0, 1) := by decide +kernel
theorem dX9_layTried_14 : decode cX9_layTried 14 = .ok (.getfield 7, 3) := by decide +kernel
theorem dX9_layTried_17 : decode cX9_layTried 17 = .ok (.iload_n 1, 1) := by decide +kernel
theorem dX9_layTried_18 : decode cX9_layTried 18 = .ok (.iaload, 1) := by decide +kernel
theorem dX9_layTried_19 : decode cX9_layTried 19 = .ok (.iastore, 1) := by decide +kernel
theorem dX9_layTried_20 : decode cX9_layTried 20 = .ok (.iinc 1 1, 3) := by decide +kernel
theorem dX9_layTried_23 : decode cX9_layTried 23 = .ok (.goto (-21), 3) := by decide +kernel
theorem dX9_layTried_26 : decode cX9_layTried 26 = .ok (.return_, 1) := by decide +kernel
theorem dX9_costOfWay_0 : decode cX9_costOfWay 0 = .ok (.iload_n 1, 1) := by decide +kernel
theorem dX9_costOfWay_1 : decode cX9_costOfWay 1 = .ok (.ifCond .ne 7, 3) := by decide +kernel
theorem dX9_costOfWay_4 : decode cX9_costOfWay 4 = .ok (.iconst (-1), 1) := by decide +kernel
theorem dX9_costOfWay_5 : decode cX9_costOfWay 5 = .ok (.goto 4, 3) := by decide +kernel
theorem dX9_costOfWay_8 : decode cX9_costOfWay 8 = .ok (.iconst 0, 1) := by decide +kernel
theorem dX9_costOfWay_9 : decode cX9_costOfWay 9 = .ok (.istore_n 2, 1) := by decide +kernel
theorem dX9_costOfWay_10 : decode cX9_costOfWay 10 = .ok (.iconst 0, 1) := by decide +kernel
theorem dX9_costOfWay_11 : decode cX9_costOfWay 11 = .ok (.istore_n 3, 1) := by decide +kernel
theorem dX9_costOfWay_12 : decode cX9_costOfWay 12 = .ok (.iload_n 3, 1) := by decide +kernel
theorem dX9_costOfWay_13 : decode cX9_costOfWay 13 = .ok (.bipush 8, 2) := by decide +kernel
theorem dX9_costOfWay_15 : decode cX9_costOfWay 15 = .ok (.if_icmp .ge 45, 3) := by decide +kernel
theorem dX9_costOfWay_18 : decode cX9_costOfWay 18 = .ok (.iload_n 1, 1) := by decide +kernel
theorem dX9_costOfWay_19 : decode cX9_costOfWay 19 = .ok (.iload_n 3, 1) := by decide +kernel
theorem dX9_costOfWay_20 : decode cX9_costOfWay 20 = .ok (.invokestatic 178, 3) := by decide +kernel
theorem dX9_costOfWay_23 : decode cX9_costOfWay 23 = .ok (.ifCond .eq 31, 3) := by decide +kernel
theorem dX9_costOfWay_26 : decode cX9_costOfWay 26 = .ok (.iload_n 2, 1) := by decide +kernel
theorem dX9_costOfWay_27 : decode cX9_costOfWay 27 = .ok (.iconst (-1), 1) := by decide +kernel
theorem dX9_costOfWay_28 : decode cX9_costOfWay 28 = .ok (.if_icmp .eq 26, 3) := by decide +kernel
theorem dX9_costOfWay_31 : decode cX9_costOfWay 31 = .ok (.aload_n 0, 1) := by decide +kernel
theorem dX9_costOfWay_32 : decode cX9_costOfWay 32 = .ok (.getfield 66, 3) := by decide +kernel
theorem dX9_costOfWay_35 : decode cX9_costOfWay 35 = .ok (.iload_n 3, 1) := by decide +kernel
theorem dX9_costOfWay_36 : decode cX9_costOfWay 36 = .ok (.iaload, 1) := by decide +kernel
theorem dX9_costOfWay_37 : decode cX9_costOfWay 37 = .ok (.iconst (-1), 1) := by decide +kernel
theorem dX9_costOfWay_38 : decode cX9_costOfWay 38 = .ok (.if_icmp .ne 7, 3) := by decide +kernel
theorem dX9_costOfWay_41 : decode cX9_costOfWay 41 = .ok (.iconst (-1), 1) := by decide +kernel
theorem dX9_costOfWay_42 : decode cX9_costOfWay 42 = .ok (.goto 11, 3) := by decide +kernel
theorem dX9_costOfWay_45 : decode cX9_costOfWay 45 = .ok (.iload_n 2, 1) := by decide +kernel
theorem dX9_costOfWay_46 : decode cX9_costOfWay 46 = .ok (.aload_n 0, 1) := by decide +kernel
theorem dX9_costOfWay_47 : decode cX9_costOfWay 47 = .ok (.getfield 66, 3) := by decide +kernel
theorem dX9_costOfWay_50 : decode cX9_costOfWay 50 = .ok (.iload_n 3, 1) := by decide +kernel
theorem dX9_costOfWay_51 : decode cX9_costOfWay 51 = .ok (.iaload, 1) := by decide +kernel
theorem dX9_costOfWay_52 : decode cX9_costOfWay 52 = .ok (.iadd, 1) := by decide +kernel
theorem dX9_costOfWay_53 : decode cX9_costOfWay 53 = .ok (.istore_n 2, 1) := by decide +kernel
theorem dX9_costOfWay_54 : decode cX9_costOfWay 54 = .ok (.iinc 3 1, 3) := by decide +kernel
theorem dX9_costOfWay_57 : decode cX9_costOfWay 57 = .ok (.goto (-45), 3) := by decide +kernel
theorem dX9_costOfWay_60 : decode cX9_costOfWay 60 = .ok (.iload_n 2, 1) := by decide +kernel
theorem dX9_costOfWay_61 : decode cX9_costOfWay 61 = .ok (.ireturn, 1) := by decide +kernel
theorem dX9_costBy_0 : decode cX9_costBy 0 = .ok (.iload_n 3, 1) := by decide +kernel
theorem dX9_costBy_1 : decode cX9_costBy 1 = .ok (.ifCond .ne 28, 3) := by decide +kernel
theorem dX9_costBy_4 : decode cX9_costBy 4 = .ok (.aload_n 0, 1) := by decide +kernel
theorem dX9_costBy_5 : decode cX9_costBy 5 = .ok (.getfield 7, 3) := by decide +kernel
theorem dX9_costBy_8 : decode cX9_costBy 8 = .ok (.iload_n 1, 1) := by decide +kernel
theorem dX9_costBy_9 : decode cX9_costBy 9 = .ok (.iload_n 2, 1) := by decide +kernel
theorem dX9_costBy_10 : decode cX9_costBy 10 = .ok (.invokestatic 257, 3) := by decide +kernel
theorem dX9_costBy_13 : decode cX9_costBy 13 = .ok (.ifCond .eq 12, 3) := by decide +kernel
theorem dX9_costBy_16 : decode cX9_costBy 16 = .ok (.aload_n 0, 1) := by decide +kernel
theorem dX9_costBy_17 : decode cX9_costBy 17 = .ok (.getfield 19, 3) := by decide +kernel
theorem dX9_costBy_20 : decode cX9_costBy 20 = .ok (.iload_n 2, 1) := by decide +kernel
theorem dX9_costBy_21 : decode cX9_costBy 21 = .ok (.iaload, 1) := by decide +kernel
theorem dX9_costBy_22 : decode cX9_costBy 22 = .ok (.goto 45, 3) := by decide +kernel
theorem dX9_costBy_25 : decode cX9_costBy 25 = .ok (.iconst (-1), 1) := by decide +kernel
theorem dX9_costBy_26 : decode cX9_costBy 26 = .ok (.goto 41, 3) := by decide +kernel
theorem dX9_costBy_29 : decode cX9_costBy 29 = .ok (.iload_n 3, 1) := by decide +kernel
theorem dX9_costBy_30 : decode cX9_costBy 30 = .ok (.iconst 1, 1) := by decide +kernel
theorem dX9_costBy_31 : decode cX9_costBy 31 = .ok (.if_icmp .ne 20, 3) := by decide +kernel
theorem dX9_costBy_34 : decode cX9_costBy 34 = .ok (.aload_n 0, 1) := by decide +kernel
theorem dX9_costBy_35 : decode cX9_costBy 35 = .ok (.getfield 28, 3) := by decide +kernel
theorem dX9_costBy_38 : decode cX9_costBy 38 = .ok (.iload_n 2, 1) := by decide +kernel
theorem dX9_costBy_39 : decode cX9_costBy 39 = .ok (.baload, 1) := by decide +kernel
theorem dX9_costBy_40 : decode cX9_costBy 40 = .ok (.ifCond .eq 7, 3) := by decide +kernel
theorem dX9_costBy_43 : decode cX9_costBy 43 = .ok (.iconst 0, 1) := by decide +kernel
theorem dX9_costBy_44 : decode cX9_costBy 44 = .ok (.goto 23, 3) := by decide +kernel
theorem dX9_costBy_47 : decode cX9_costBy 47 = .ok (.iconst (-1), 1) := by decide +kernel
theorem dX9_costBy_48 : decode cX9_costBy 48 = .ok (.goto 19, 3) := by decide +kernel
theorem dX9_costBy_51 : decode cX9_costBy 51 = .ok (.aload_n 0, 1) := by decide +kernel
theorem dX9_costBy_52 : decode cX9_costBy 52 = .ok (.aload_n 0, 1) := by decide +kernel
theorem dX9_costBy_53 : decode cX9_costBy 53 = .ok (.getfield 25, 3) := by decide +kernel
theorem dX9_costBy_56 : decode cX9_costBy 56 = .ok (.iconst 2, 1) := by decide +kernel
theorem dX9_costBy_57 : decode cX9_costBy 57 = .ok (.iload_n 2, 1) := by decide +kernel
theorem dX9_costBy_58 : decode cX9_costBy 58 = .ok (.imul, 1) := by decide +kernel
theorem dX9_costBy_59 : decode cX9_costBy 59 = .ok (.iload_n 3, 1) := by decide +kernel
theorem dX9_costBy_60 : decode cX9_costBy 60 = .ok (.iadd, 1) := by decide +kernel
theorem dX9_costBy_61 : decode cX9_costBy 61 = .ok (.iconst 2, 1) := by decide +kernel
theorem dX9_costBy_62 : decode cX9_costBy 62 = .ok (.isub, 1) := by decide +kernel
theorem dX9_costBy_63 : decode cX9_costBy 63 = .ok (.iaload, 1) := by decide +kernel
theorem dX9_costBy_64 : decode cX9_costBy 64 = .ok (.invokevirtual 312, 3) := by decide +kernel
theorem dX9_costBy_67 : decode cX9_costBy 67 = .ok (.ireturn, 1) := by decide +kernel
theorem dX9_cheapest_0 : decode cX9_cheapest 0 = .ok (.aload_n 0, 1) := by decide +kernel
theorem dX9_cheapest_1 : decode cX9_cheapest 1 = .ok (.iload_n 1, 1) := by decide +kernel
theorem dX9_cheapest_2 : decode cX9_cheapest 2 = .ok (.invokevirtual 243, 3) := by decide +kernel
theorem dX9_cheapest_5 : decode cX9_cheapest 5 = .ok (.ifCond .eq 11, 3) := by decide +kernel
theorem dX9_cheapest_8 : decode cX9_cheapest 8 = .ok (.aload_n 0, 1) := by decide +kernel
theorem dX9_cheapest_9 : decode cX9_cheapest 9 = .ok (.iload_n 2, 1) := by decide +kernel
theorem dX9_cheapest_10 : decode cX9_cheapest 10 = .ok (.invokevirtual 235, 3) := by decide +kernel
theorem dX9_cheapest_13 : decode cX9_cheapest 13 = .ok (.ifCond .ne 6, 3) := by decide +kernel
theorem dX9_cheapest_16 : decode cX9_cheapest 16 = .ok (.ldc 238, 2) := by decide +kernel
theorem dX9_cheapest_18 : decode cX9_cheapest 18 = .ok (.ireturn, 1) := by decide +kernel
theorem dX9_cheapest_19 : decode cX9_cheapest 19 = .ok (.iload_n 3, 1) := by decide +kernel
theorem dX9_cheapest_20 : decode cX9_cheapest 20 = .ok (.i2l, 1) := by decide +kernel
theorem dX9_cheapest_21 : decode cX9_cheapest 21 = .ok (.lconst 0, 1) := by decide +kernel
theorem dX9_cheapest_22 : decode cX9_cheapest 22 = .ok (.lconst 1, 1) := by decide +kernel
theorem dX9_cheapest_23 : decode cX9_cheapest 23 = .ok (.invokestatic 120, 3) := by decide +kernel
theorem dX9_cheapest_26 : decode cX9_cheapest 26 = .ok (.ifCond .ne 6, 3) := by decide +kernel
theorem dX9_cheapest_29 : decode cX9_cheapest 29 = .ok (.ldc 133, 2) := by decide +kernel
theorem dX9_cheapest_31 : decode cX9_cheapest 31 = .ok (.ireturn, 1) := by decide +kernel
theorem dX9_cheapest_32 : decode cX9_cheapest 32 = .ok (.iconst 0, 1) := by decide +kernel
theorem dX9_cheapest_33 : decode cX9_cheapest 33 = .ok (.istore 4, 2) := by decide +kernel
theorem dX9_cheapest_35 : decode cX9_cheapest 35 = .ok (.iload 4, 2) := by decide +kernel
theorem dX9_cheapest_37 : decode cX9_cheapest 37 = .ok (.bipush 8, 2) := by decide +kernel
theorem dX9_cheapest_39 : decode cX9_cheapest 39 = .ok (.if_icmp .ge 17, 3) := by decide +kernel
theorem dX9_cheapest_42 : decode cX9_cheapest 42 = .ok (.aload_n 0, 1) := by decide +kernel
theorem dX9_cheapest_43 : decode cX9_cheapest 43 = .ok (.getfield 66, 3) := by decide +kernel
theorem dX9_cheapest_46 : decode cX9_cheapest 46 = .ok (.iload 4, 2) := by decide +kernel
theorem dX9_cheapest_48 : decode cX9_cheapest 48 = .ok (.iconst (-1), 1) := by decide +kernel
theorem dX9_cheapest_49 : decode cX9_cheapest 49 = .ok (.iastore, 1) := by decide +kernel
theorem dX9_cheapest_50 : decode cX9_cheapest 50 = .ok (.iinc 4 1, 3) := by decide +kernel
theorem dX9_cheapest_53 : decode cX9_cheapest 53 = .ok (.goto (-18), 3) := by decide +kernel
theorem dX9_cheapest_56 : decode cX9_cheapest 56 = .ok (.iconst 0, 1) := by decide +kernel
theorem dX9_cheapest_57 : decode cX9_cheapest 57 = .ok (.istore 4, 2) := by decide +kernel
theorem dX9_cheapest_59 : decode cX9_cheapest 59 = .ok (.iload 4, 2) := by decide +kernel
theorem dX9_cheapest_61 : decode cX9_cheapest 61 = .ok (.bipush 10, 2) := by decide +kernel
theorem dX9_cheapest_63 : decode cX9_cheapest 63 = .ok (.if_icmp .ge 101, 3) := by decide +kernel
theorem dX9_cheapest_66 : decode cX9_cheapest 66 = .ok (.iconst 0, 1) := by decide +kernel
theorem dX9_cheapest_67 : decode cX9_cheapest 67 = .ok (.istore 5, 2) := by decide +kernel
theorem dX9_cheapest_69 : decode cX9_cheapest 69 = .ok (.iload 5, 2) := by decide +kernel
theorem dX9_cheapest_71 : decode cX9_cheapest 71 = .ok (.aload_n 0, 1) := by decide +kernel
theorem dX9_cheapest_72 : decode cX9_cheapest 72 = .ok (.getfield 117, 3) := by decide +kernel
theorem dX9_cheapest_75 : decode cX9_cheapest 75 = .ok (.if_icmp .ge 83, 3) := by decide +kernel
theorem dX9_cheapest_78 : decode cX9_cheapest 78 = .ok (.iconst 0, 1) := by decide +kernel
theorem dX9_cheapest_79 : decode cX9_cheapest 79 = .ok (.istore 6, 2) := by decide +kernel
theorem dX9_cheapest_81 : decode cX9_cheapest 81 = .ok (.iload 6, 2) := by decide +kernel
theorem dX9_cheapest_83 : decode cX9_cheapest 83 = .ok (.iconst 4, 1) := by decide +kernel
theorem dX9_cheapest_84 : decode cX9_cheapest 84 = .ok (.if_icmp .ge 68, 3) := by decide +kernel
theorem dX9_cheapest_87 : decode cX9_cheapest 87 = .ok (.aload_n 0, 1) := by decide +kernel
theorem dX9_cheapest_88 : decode cX9_cheapest 88 = .ok (.iload_n 1, 1) := by decide +kernel
theorem dX9_cheapest_89 : decode cX9_cheapest 89 = .ok (.iload 5, 2) := by decide +kernel
theorem dX9_cheapest_91 : decode cX9_cheapest 91 = .ok (.iload 6, 2) := by decide +kernel
theorem dX9_cheapest_93 : decode cX9_cheapest 93 = .ok (.invokevirtual 315, 3) := by decide +kernel
theorem dX9_cheapest_96 : decode cX9_cheapest 96 = .ok (.istore 7, 2) := by decide +kernel
theorem dX9_cheapest_98 : decode cX9_cheapest 98 = .ok (.aload_n 0, 1) := by decide +kernel
theorem dX9_cheapest_99 : decode cX9_cheapest 99 = .ok (.getfield 66, 3) := by decide +kernel
theorem dX9_cheapest_102 : decode cX9_cheapest 102 = .ok (.iload 5, 2) := by decide +kernel
theorem dX9_cheapest_104 : decode cX9_cheapest 104 = .ok (.iload 7, 2) := by decide +kernel
theorem dX9_cheapest_106 : decode cX9_cheapest 106 = .ok (.iconst (-1), 1) := by decide +kernel
theorem dX9_cheapest_107 : decode cX9_cheapest 107 = .ok (.if_icmp .eq 31, 3) := by decide +kernel
theorem dX9_cheapest_110 : decode cX9_cheapest 110 = .ok (.aload_n 0, 1) := by decide +kernel
theorem dX9_cheapest_111 : decode cX9_cheapest 111 = .ok (.getfield 66, 3) := by decide +kernel
theorem dX9_cheapest_114 : decode cX9_cheapest 114 = .ok (.iload 5, 2) := by decide +kernel
theorem dX9_cheapest_116 : decode cX9_cheapest 116 = .ok (.iaload, 1) := by decide +kernel
theorem dX9_cheapest_117 : decode cX9_cheapest 117 = .ok (.iconst (-1), 1) := by decide +kernel
theorem dX9_cheapest_118 : decode cX9_cheapest 118 = .ok (.if_icmp .eq 15, 3) := by decide +kernel
theorem dX9_cheapest_121 : decode cX9_cheapest 121 = .ok (.iload 7, 2) := by decide +kernel
theorem dX9_cheapest_123 : decode cX9_cheapest 123 = .ok (.aload_n 0, 1) := by decide +kernel
theorem dX9_cheapest_124 : decode cX9_cheapest 124 = .ok (.getfield 66, 3) := by decide +kernel
theorem dX9_cheapest_127 : decode cX9_cheapest 127 = .ok (.iload 5, 2) := by decide +kernel
theorem dX9_cheapest_129 : decode cX9_cheapest 129 = .ok (.iaload, 1) := by decide +kernel
theorem dX9_cheapest_130 : decode cX9_cheapest 130 = .ok (.if_icmp .ge 8, 3) := by decide +kernel
theorem dX9_cheapest_133 : decode cX9_cheapest 133 = .ok (.iload 7, 2) := by decide +kernel
theorem dX9_cheapest_135 : decode cX9_cheapest 135 = .ok (.goto 10, 3) := by decide +kernel
theorem dX9_cheapest_138 : decode cX9_cheapest 138 = .ok (.aload_n 0, 1) := by decide +kernel
theorem dX9_cheapest_139 : decode cX9_cheapest 139 = .ok (.getfield 66, 3) := by decide +kernel
theorem dX9_cheapest_142 : decode cX9_cheapest 142 = .ok (.iload 5, 2) := by decide +kernel
theorem dX9_cheapest_144 : decode cX9_cheapest 144 = .ok (.iaload, 1) := by decide +kernel
theorem dX9_cheapest_145 : decode cX9_cheapest 145 = .ok (.iastore, 1) := by decide +kernel
theorem dX9_cheapest_146 : decode cX9_cheapest 146 = .ok (.iinc 6 1, 3) := by decide +kernel
theorem dX9_cheapest_149 : decode cX9_cheapest 149 = .ok (.goto (-68), 3) := by decide +kernel
theorem dX9_cheapest_152 : decode cX9_cheapest 152 = .ok (.iinc 5 1, 3) := by decide +kernel
theorem dX9_cheapest_155 : decode cX9_cheapest 155 = .ok (.goto (-86), 3) := by decide +kernel
theorem dX9_cheapest_158 : decode cX9_cheapest 158 = .ok (.iinc 4 1, 3) := by decide +kernel
theorem dX9_cheapest_161 : decode cX9_cheapest 161 = .ok (.goto (-102), 3) := by decide +kernel
theorem dX9_cheapest_164 : decode cX9_cheapest 164 = .ok (.iconst (-1), 1) := by decide +kernel
theorem dX9_cheapest_165 : decode cX9_cheapest 165 = .ok (.istore 4, 2) := by decide +kernel
theorem dX9_cheapest_167 : decode cX9_cheapest 167 = .ok (.iconst 3, 1) := by decide +kernel
theorem dX9_cheapest_168 : decode cX9_cheapest 168 = .ok (.istore 5, 2) := by decide +kernel
theorem dX9_cheapest_170 : decode cX9_cheapest 170 = .ok (.iload 5, 2) := by decide +kernel
theorem dX9_cheapest_172 : decode cX9_cheapest 172 = .ok (.ifCond .lt 45, 3) := by decide +kernel
theorem dX9_cheapest_175 : decode cX9_cheapest 175 = .ok (.aload_n 0, 1) := by decide +kernel
theorem dX9_cheapest_176 : decode cX9_cheapest 176 = .ok (.getfield 66, 3) := by decide +kernel
theorem dX9_cheapest_179 : decode cX9_cheapest 179 = .ok (.iload_n 2, 1) := by decide +kernel
theorem dX9_cheapest_180 : decode cX9_cheapest 180 = .ok (.iaload, 1) := by decide +kernel
theorem dX9_cheapest_181 : decode cX9_cheapest 181 = .ok (.iconst (-1), 1) := by decide +kernel
theorem dX9_cheapest_182 : decode cX9_cheapest 182 = .ok (.if_icmp .eq 25, 3) := by decide +kernel
theorem dX9_cheapest_185 : decode cX9_cheapest 185 = .ok (.aload_n 0, 1) := by decide +kernel
theorem dX9_cheapest_186 : decode cX9_cheapest 186 = .ok (.iload_n 1, 1) := by decide +kernel
theorem dX9_cheapest_187 : decode cX9_cheapest 187 = .ok (.iload_n 2, 1) := by decide +kernel
theorem dX9_cheapest_188 : decode cX9_cheapest 188 = .ok (.iload 5, 2) := by decide +kernel
theorem dX9_cheapest_190 : decode cX9_cheapest 190 = .ok (.invokevirtual 315, 3) := by decide +kernel
theorem dX9_cheapest_193 : decode cX9_cheapest 193 = .ok (.aload_n 0, 1) := by decide +kernel
theorem dX9_cheapest_194 : decode cX9_cheapest 194 = .ok (.getfield 66, 3) := by decide +kernel
theorem dX9_cheapest_197 : decode cX9_cheapest 197 = .ok (.iload_n 2, 1) := by decide +kernel
theorem dX9_cheapest_198 : decode cX9_cheapest 198 = .ok (.iaload, 1) := by decide +kernel
theorem dX9_cheapest_199 : decode cX9_cheapest 199 = .ok (.if_icmp .ne 8, 3) := by decide +kernel
theorem dX9_cheapest_202 : decode cX9_cheapest 202 = .ok (.iload 5, 2) := by decide +kernel
theorem dX9_cheapest_204 : decode cX9_cheapest 204 = .ok (.goto 5, 3) := by decide +kernel
theorem dX9_cheapest_207 : decode cX9_cheapest 207 = .ok (.iload 4, 2) := by decide +kernel
theorem dX9_cheapest_209 : decode cX9_cheapest 209 = .ok (.istore 4, 2) := by decide +kernel
theorem dX9_cheapest_211 : decode cX9_cheapest 211 = .ok (.iinc 5 (-1), 3) := by decide +kernel
theorem dX9_cheapest_214 : decode cX9_cheapest 214 = .ok (.goto (-44), 3) := by decide +kernel
theorem dX9_cheapest_217 : decode cX9_cheapest 217 = .ok (.iload_n 3, 1) := by decide +kernel
theorem dX9_cheapest_218 : decode cX9_cheapest 218 = .ok (.ifCond .ne 12, 3) := by decide +kernel
theorem dX9_cheapest_221 : decode cX9_cheapest 221 = .ok (.aload_n 0, 1) := by decide +kernel
theorem dX9_cheapest_222 : decode cX9_cheapest 222 = .ok (.getfield 66, 3) := by decide +kernel
theorem dX9_cheapest_225 : decode cX9_cheapest 225 = .ok (.iload_n 2, 1) := by decide +kernel
theorem dX9_cheapest_226 : decode cX9_cheapest 226 = .ok (.iaload, 1) := by decide +kernel
theorem dX9_cheapest_227 : decode cX9_cheapest 227 = .ok (.goto 5, 3) := by decide +kernel
theorem dX9_cheapest_230 : decode cX9_cheapest 230 = .ok (.iload 4, 2) := by decide +kernel
theorem dX9_cheapest_232 : decode cX9_cheapest 232 = .ok (.ireturn, 1) := by decide +kernel
theorem dX9_runsOut_0 : decode cX9_runsOut 0 = .ok (.aload_n 0, 1) := by decide +kernel
theorem dX9_runsOut_1 : decode cX9_runsOut 1 = .ok (.iload_n 1, 1) := by decide +kernel
theorem dX9_runsOut_2 : decode cX9_runsOut 2 = .ok (.invokevirtual 235, 3) := by decide +kernel
theorem dX9_runsOut_5 : decode cX9_runsOut 5 = .ok (.ifCond .ne 6, 3) := by decide +kernel
theorem dX9_runsOut_8 : decode cX9_runsOut 8 = .ok (.ldc 238, 2) := by decide +kernel
theorem dX9_runsOut_10 : decode cX9_runsOut 10 = .ok (.ireturn, 1) := by decide +kernel
theorem dX9_runsOut_11 : decode cX9_runsOut 11 = .ok (.aload_n 0, 1) := by decide +kernel
theorem dX9_runsOut_12 : decode cX9_runsOut 12 = .ok (.invokevirtual 319, 3) := by decide +kernel
theorem dX9_runsOut_15 : decode cX9_runsOut 15 = .ok (.aload_n 0, 1) := by decide +kernel
theorem dX9_runsOut_16 : decode cX9_runsOut 16 = .ok (.getfield 216, 3) := by decide +kernel
theorem dX9_runsOut_19 : decode cX9_runsOut 19 = .ok (.iconst 1, 1) := by decide +kernel
theorem dX9_runsOut_20 : decode cX9_runsOut 20 = .ok (.isub, 1) := by decide +kernel
theorem dX9_runsOut_21 : decode cX9_runsOut 21 = .ok (.aload_n 0, 1) := by decide +kernel
theorem dX9_runsOut_22 : decode cX9_runsOut 22 = .ok (.invokevirtual 232, 3) := by decide +kernel
theorem dX9_runsOut_25 : decode cX9_runsOut 25 = .ok (.isub, 1) := by decide +kernel
theorem dX9_runsOut_26 : decode cX9_runsOut 26 = .ok (.istore_n 2, 1) := by decide +kernel
theorem dX9_runsOut_27 : decode cX9_runsOut 27 = .ok (.iconst 0, 1) := by decide +kernel
theorem dX9_runsOut_28 : decode cX9_runsOut 28 = .ok (.istore_n 3, 1) := by decide +kernel
theorem dX9_runsOut_29 : decode cX9_runsOut 29 = .ok (.iload_n 3, 1) := by decide +kernel
theorem dX9_runsOut_30 : decode cX9_runsOut 30 = .ok (.iload_n 2, 1) := by decide +kernel
theorem dX9_runsOut_31 : decode cX9_runsOut 31 = .ok (.if_icmp .gt 39, 3) := by decide +kernel
theorem dX9_runsOut_34 : decode cX9_runsOut 34 = .ok (.iload_n 3, 1) := by decide +kernel
theorem dX9_runsOut_35 : decode cX9_runsOut 35 = .ok (.bipush 99, 2) := by decide +kernel
theorem dX9_runsOut_37 : decode cX9_runsOut 37 = .ok (.if_icmp .gt 33, 3) := by decide +kernel
theorem dX9_runsOut_40 : decode cX9_runsOut 40 = .ok (.aload_n 0, 1) := by decide +kernel
theorem dX9_runsOut_41 : decode cX9_runsOut 41 = .ok (.getfield 13, 3) := by decide +kernel
theorem dX9_runsOut_44 : decode cX9_runsOut 44 = .ok (.bipush 13, 2) := by decide +kernel
theorem dX9_runsOut_46 : decode cX9_runsOut 46 = .ok (.iload_n 1, 1) := by decide +kernel
theorem dX9_runsOut_47 : decode cX9_runsOut 47 = .ok (.iadd, 1) := by decide +kernel
theorem dX9_runsOut_48 : decode cX9_runsOut 48 = .ok (.iaload, 1) := by decide +kernel
theorem dX9_runsOut_49 : decode cX9_runsOut 49 = .ok (.ifCond .ne 5, 3) := by decide +kernel
theorem dX9_runsOut_52 : decode cX9_runsOut 52 = .ok (.iload_n 3, 1) := by decide +kernel
theorem dX9_runsOut_53 : decode cX9_runsOut 53 = .ok (.ireturn, 1) := by decide +kernel
theorem dX9_runsOut_54 : decode cX9_runsOut 54 = .ok (.aload_n 0, 1) := by decide +kernel
theorem dX9_runsOut_55 : decode cX9_runsOut 55 = .ok (.aload_n 0, 1) := by decide +kernel
theorem dX9_runsOut_56 : decode cX9_runsOut 56 = .ok (.getfield 13, 3) := by decide +kernel
theorem dX9_runsOut_59 : decode cX9_runsOut 59 = .ok (.invokevirtual 290, 3) := by decide +kernel
theorem dX9_runsOut_62 : decode cX9_runsOut 62 = .ok (.istore 4, 2) := by decide +kernel
theorem dX9_runsOut_64 : decode cX9_runsOut 64 = .ok (.iinc 3 1, 3) := by decide +kernel
theorem dX9_runsOut_67 : decode cX9_runsOut 67 = .ok (.goto (-38), 3) := by decide +kernel
theorem dX9_runsOut_70 : decode cX9_runsOut 70 = .ok (.iconst (-1), 1) := by decide +kernel
theorem dX9_runsOut_71 : decode cX9_runsOut 71 = .ok (.ireturn, 1) := by decide +kernel
theorem dX9_willBe_0 : decode cX9_willBe 0 = .ok (.iload_n 1, 1) := by decide +kernel
theorem dX9_willBe_1 : decode cX9_willBe 1 = .ok (.i2l, 1) := by decide +kernel
theorem dX9_willBe_2 : decode cX9_willBe 2 = .ok (.lconst 1, 1) := by decide +kernel
theorem dX9_willBe_3 : decode cX9_willBe 3 = .ok (.ldc2_w 294, 3) := by decide +kernel
theorem dX9_willBe_6 : decode cX9_willBe 6 = .ok (.invokestatic 120, 3) := by decide +kernel
theorem dX9_willBe_9 : decode cX9_willBe 9 = .ok (.ifCond .ne 6, 3) := by decide +kernel
theorem dX9_willBe_12 : decode cX9_willBe 12 = .ok (.ldc 133, 2) := by decide +kernel
theorem dX9_willBe_14 : decode cX9_willBe 14 = .ok (.ireturn, 1) := by decide +kernel
theorem dX9_willBe_15 : decode cX9_willBe 15 = .ok (.aload_n 0, 1) := by decide +kernel
theorem dX9_willBe_16 : decode cX9_willBe 16 = .ok (.getfield 216, 3) := by decide +kernel
theorem dX9_willBe_19 : decode cX9_willBe 19 = .ok (.ifCond .ne 7, 3) := by decide +kernel
theorem dX9_willBe_22 : decode cX9_willBe 22 = .ok (.ldc_w 286, 3) := by decide +kernel
theorem dX9_willBe_25 : decode cX9_willBe 25 = .ok (.ireturn, 1) := by decide +kernel
theorem dX9_willBe_26 : decode cX9_willBe 26 = .ok (.aload_n 0, 1) := by decide +kernel
theorem dX9_willBe_27 : decode cX9_willBe 27 = .ok (.invokevirtual 319, 3) := by decide +kernel
theorem dX9_willBe_30 : decode cX9_willBe 30 = .ok (.iconst 0, 1) := by decide +kernel
theorem dX9_willBe_31 : decode cX9_willBe 31 = .ok (.istore_n 2, 1) := by decide +kernel
theorem dX9_willBe_32 : decode cX9_willBe 32 = .ok (.iconst 0, 1) := by decide +kernel
theorem dX9_willBe_33 : decode cX9_willBe 33 = .ok (.istore_n 3, 1) := by decide +kernel
theorem dX9_willBe_34 : decode cX9_willBe 34 = .ok (.iload_n 3, 1) := by decide +kernel
theorem dX9_willBe_35 : decode cX9_willBe 35 = .ok (.iload_n 1, 1) := by decide +kernel
theorem dX9_willBe_36 : decode cX9_willBe 36 = .ok (.if_icmp .ge 20, 3) := by decide +kernel
theorem dX9_willBe_39 : decode cX9_willBe 39 = .ok (.iload_n 2, 1) := by decide +kernel
theorem dX9_willBe_40 : decode cX9_willBe 40 = .ok (.aload_n 0, 1) := by decide +kernel
theorem dX9_willBe_41 : decode cX9_willBe 41 = .ok (.aload_n 0, 1) := by decide +kernel
theorem dX9_willBe_42 : decode cX9_willBe 42 = .ok (.getfield 13, 3) := by decide +kernel
theorem dX9_willBe_45 : decode cX9_willBe 45 = .ok (.invokevirtual 290, 3) := by decide +kernel
theorem dX9_willBe_48 : decode cX9_willBe 48 = .ok (.iadd, 1) := by decide +kernel
theorem dX9_willBe_49 : decode cX9_willBe 49 = .ok (.istore_n 2, 1) := by decide +kernel
theorem dX9_willBe_50 : decode cX9_willBe 50 = .ok (.iinc 3 1, 3) := by decide +kernel
theorem dX9_willBe_53 : decode cX9_willBe 53 = .ok (.goto (-19), 3) := by decide +kernel
theorem dX9_willBe_56 : decode cX9_willBe 56 = .ok (.iload_n 2, 1) := by decide +kernel
theorem dX9_willBe_57 : decode cX9_willBe 57 = .ok (.ireturn, 1) := by decide +kernel
theorem dX9_wordsBy_0 : decode cX9_wordsBy 0 = .ok (.aload_n 0, 1) := by decide +kernel
theorem dX9_wordsBy_1 : decode cX9_wordsBy 1 = .ok (.aload_n 0, 1) := by decide +kernel
theorem dX9_wordsBy_2 : decode cX9_wordsBy 2 = .ok (.getfield 69, 3) := by decide +kernel
theorem dX9_wordsBy_5 : decode cX9_wordsBy 5 = .ok (.iload_n 1, 1) := by decide +kernel
theorem dX9_wordsBy_6 : decode cX9_wordsBy 6 = .ok (.iaload, 1) := by decide +kernel
theorem dX9_wordsBy_7 : decode cX9_wordsBy 7 = .ok (.invokevirtual 268, 3) := by decide +kernel
theorem dX9_wordsBy_10 : decode cX9_wordsBy 10 = .ok (.istore_n 3, 1) := by decide +kernel
theorem dX9_wordsBy_11 : decode cX9_wordsBy 11 = .ok (.iload_n 2, 1) := by decide +kernel
theorem dX9_wordsBy_12 : decode cX9_wordsBy 12 = .ok (.iconst 1, 1) := by decide +kernel
theorem dX9_wordsBy_13 : decode cX9_wordsBy 13 = .ok (.if_icmp .ne 9, 3) := by decide +kernel
theorem dX9_wordsBy_16 : decode cX9_wordsBy 16 = .ok (.iconst 1, 1) := by decide +kernel
theorem dX9_wordsBy_17 : decode cX9_wordsBy 17 = .ok (.iload_n 3, 1) := by decide +kernel
theorem dX9_wordsBy_18 : decode cX9_wordsBy 18 = .ok (.ishl, 1) := by decide +kernel
theorem dX9_wordsBy_19 : decode cX9_wordsBy 19 = .ok (.goto 29, 3) := by decide +kernel
theorem dX9_wordsBy_22 : decode cX9_wordsBy 22 = .ok (.iload_n 2, 1) := by decide +kernel
theorem dX9_wordsBy_23 : decode cX9_wordsBy 23 = .ok (.iconst 2, 1) := by decide +kernel
theorem dX9_wordsBy_24 : decode cX9_wordsBy 24 = .ok (.if_icmp .eq 8, 3) := by decide +kernel
theorem dX9_wordsBy_27 : decode cX9_wordsBy 27 = .ok (.iload_n 2, 1) := by decide +kernel
theorem dX9_wordsBy_28 : decode cX9_wordsBy 28 = .ok (.iconst 3, 1) := by decide +kernel
theorem dX9_wordsBy_29 : decode cX9_wordsBy 29 = .ok (.if_icmp .ne 18, 3) := by decide +kernel
theorem dX9_wordsBy_32 : decode cX9_wordsBy 32 = .ok (.aload_n 0, 1) := by decide +kernel
theorem dX9_wordsBy_33 : decode cX9_wordsBy 33 = .ok (.getfield 25, 3) := by decide +kernel
theorem dX9_wordsBy_36 : decode cX9_wordsBy 36 = .ok (.iconst 2, 1) := by decide +kernel
theorem dX9_wordsBy_37 : decode cX9_wordsBy 37 = .ok (.iload_n 3, 1) := by decide +kernel
theorem dX9_wordsBy_38 : decode cX9_wordsBy 38 = .ok (.imul, 1) := by decide +kernel
theorem dX9_wordsBy_39 : decode cX9_wordsBy 39 = .ok (.iload_n 2, 1) := by decide +kernel
theorem dX9_wordsBy_40 : decode cX9_wordsBy 40 = .ok (.iadd, 1) := by decide +kernel
theorem dX9_wordsBy_41 : decode cX9_wordsBy 41 = .ok (.iconst 2, 1) := by decide +kernel
theorem dX9_wordsBy_42 : decode cX9_wordsBy 42 = .ok (.isub, 1) := by decide +kernel
theorem dX9_wordsBy_43 : decode cX9_wordsBy 43 = .ok (.iaload, 1) := by decide +kernel
theorem dX9_wordsBy_44 : decode cX9_wordsBy 44 = .ok (.goto 4, 3) := by decide +kernel
theorem dX9_wordsBy_47 : decode cX9_wordsBy 47 = .ok (.iconst 0, 1) := by decide +kernel
theorem dX9_wordsBy_48 : decode cX9_wordsBy 48 = .ok (.ireturn, 1) := by decide +kernel
theorem dX9_use_0 : decode cX9_use 0 = .ok (.aload_n 0, 1) := by decide +kernel
theorem dX9_use_1 : decode cX9_use 1 = .ok (.iload_n 1, 1) := by decide +kernel
theorem dX9_use_2 : decode cX9_use 2 = .ok (.iload_n 2, 1) := by decide +kernel
theorem dX9_use_3 : decode cX9_use 3 = .ok (.invokevirtual 322, 3) := by decide +kernel
theorem dX9_use_6 : decode cX9_use 6 = .ok (.istore 4, 2) := by decide +kernel
theorem dX9_use_8 : decode cX9_use 8 = .ok (.iconst 0, 1) := by decide +kernel
theorem dX9_use_9 : decode cX9_use 9 = .ok (.istore 5, 2) := by decide +kernel
theorem dX9_use_11 : decode cX9_use 11 = .ok (.iload 5, 2) := by decide +kernel
theorem dX9_use_13 : decode cX9_use 13 = .ok (.bipush 8, 2) := by decide +kernel
theorem dX9_use_15 : decode cX9_use 15 = .ok (.if_icmp .ge 34, 3) := by decide +kernel
theorem dX9_use_18 : decode cX9_use 18 = .ok (.aload_n 0, 1) := by decide +kernel
theorem dX9_use_19 : decode cX9_use 19 = .ok (.getfield 78, 3) := by decide +kernel
theorem dX9_use_22 : decode cX9_use 22 = .ok (.iload 5, 2) := by decide +kernel
theorem dX9_use_24 : decode cX9_use 24 = .ok (.dup2, 1) := by decide +kernel
theorem dX9_use_25 : decode cX9_use 25 = .ok (.iaload, 1) := by decide +kernel
theorem dX9_use_26 : decode cX9_use 26 = .ok (.iload 4, 2) := by decide +kernel
theorem dX9_use_28 : decode cX9_use 28 = .ok (.iload 5, 2) := by decide +kernel
theorem dX9_use_30 : decode cX9_use 30 = .ok (.invokestatic 178, 3) := by decide +kernel
theorem dX9_use_33 : decode cX9_use 33 = .ok (.ifCond .eq 7, 3) := by decide +kernel
theorem dX9_use_36 : decode cX9_use 36 = .ok (.iload_n 3, 1) := by decide +kernel
theorem dX9_use_37 : decode cX9_use 37 = .ok (.goto 4, 3) := by decide +kernel
theorem dX9_use_40 : decode cX9_use 40 = .ok (.iconst 0, 1) := by decide +kernel
theorem dX9_use_41 : decode cX9_use 41 = .ok (.iadd, 1) := by decide +kernel
theorem dX9_use_42 : decode cX9_use 42 = .ok (.iastore, 1) := by decide +kernel
theorem dX9_use_43 : decode cX9_use 43 = .ok (.iinc 5 1, 3) := by decide +kernel
theorem dX9_use_46 : decode cX9_use 46 = .ok (.goto (-35), 3) := by decide +kernel
theorem dX9_use_49 : decode cX9_use 49 = .ok (.aload_n 0, 1) := by decide +kernel
theorem dX9_use_50 : decode cX9_use 50 = .ok (.dup, 1) := by decide +kernel
theorem dX9_use_51 : decode cX9_use 51 = .ok (.getfield 325, 3) := by decide +kernel
theorem dX9_use_54 : decode cX9_use 54 = .ok (.iload_n 3, 1) := by decide +kernel
theorem dX9_use_55 : decode cX9_use 55 = .ok (.iload 4, 2) := by decide +kernel
theorem dX9_use_57 : decode cX9_use 57 = .ok (.invokestatic 328, 3) := by decide +kernel
theorem dX9_use_60 : decode cX9_use 60 = .ok (.imul, 1) := by decide +kernel
theorem dX9_use_61 : decode cX9_use 61 = .ok (.iadd, 1) := by decide +kernel
theorem dX9_use_62 : decode cX9_use 62 = .ok (.putfield 325, 3) := by decide +kernel
