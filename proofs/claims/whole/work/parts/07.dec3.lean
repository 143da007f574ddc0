theorem dX12_tellList_21 : decode cX12_tellList 21 = .ok (.ifCond .ne 119, 3) := by decide +kernel
theorem dX12_tellList_24 : decode cX12_tellList 24 = .ok (.aload_n 0, 1) := by decide +kernel
theorem dX12_tellList_25 : decode cX12_tellList 25 = .ok (.iconst 2, 1) := by decide +kernel
theorem dX12_tellList_26 : decode cX12_tellList 26 = .ok (.invokevirtual 231, 3) := by decide +kernel
theorem dX12_tellList_29 : decode cX12_tellList 29 = .ok (.ifCond .ne 12, 3) := by decide +kernel
theorem dX12_tellList_32 : decode cX12_tellList 32 = .ok (.aload_n 0, 1) := by decide +kernel
theorem dX12_tellList_33 : decode cX12_tellList 33 = .ok (.bipush 9, 2) := by decide +kernel
theorem dX12_tellList_35 : decode cX12_tellList 35 = .ok (.invokevirtual 231, 3) := by decide +kernel
theorem dX12_tellList_38 : decode cX12_tellList 38 = .ok (.ifCond .eq 102, 3) := by decide +kernel
theorem dX12_tellList_41 : decode cX12_tellList 41 = .ok (.aload_n 0, 1) := by decide +kernel
theorem dX12_tellList_42 : decode cX12_tellList 42 = .ok (.bipush 9, 2) := by decide +kernel
theorem dX12_tellList_44 : decode cX12_tellList 44 = .ok (.invokevirtual 231, 3) := by decide +kernel
theorem dX12_tellList_47 : decode cX12_tellList 47 = .ok (.istore 4, 2) := by decide +kernel
theorem dX12_tellList_49 : decode cX12_tellList 49 = .ok (.iload 4, 2) := by decide +kernel
theorem dX12_tellList_51 : decode cX12_tellList 51 = .ok (.ifCond .eq 7, 3) := by decide +kernel
theorem dX12_tellList_54 : decode cX12_tellList 54 = .ok (.aload_n 0, 1) := by decide +kernel
theorem dX12_tellList_55 : decode cX12_tellList 55 = .ok (.invokevirtual 234, 3) := by decide +kernel
theorem dX12_tellList_58 : decode cX12_tellList 58 = .ok (.aload_n 0, 1) := by decide +kernel
theorem dX12_tellList_59 : decode cX12_tellList 59 = .ok (.iconst 2, 1) := by decide +kernel
theorem dX12_tellList_60 : decode cX12_tellList 60 = .ok (.invokevirtual 231, 3) := by decide +kernel
theorem dX12_tellList_63 : decode cX12_tellList 63 = .ok (.ifCond .eq 14, 3) := by decide +kernel
theorem dX12_tellList_66 : decode cX12_tellList 66 = .ok (.iload_n 3, 1) := by decide +kernel
theorem dX12_tellList_67 : decode cX12_tellList 67 = .ok (.bipush 6, 2) := by decide +kernel
theorem dX12_tellList_69 : decode cX12_tellList 69 = .ok (.if_icmp .ne 8, 3) := by decide +kernel
theorem dX12_tellList_72 : decode cX12_tellList 72 = .ok (.aload_n 0, 1) := by decide +kernel
theorem dX12_tellList_73 : decode cX12_tellList 73 = .ok (.iconst 2, 1) := by decide +kernel
theorem dX12_tellList_74 : decode cX12_tellList 74 = .ok (.invokevirtual 228, 3) := by decide +kernel
theorem dX12_tellList_77 : decode cX12_tellList 77 = .ok (.aload_n 0, 1) := by decide +kernel
theorem dX12_tellList_78 : decode cX12_tellList 78 = .ok (.getfield 213, 3) := by decide +kernel
theorem dX12_tellList_81 : decode cX12_tellList 81 = .ok (.ifCond .le 4, 3) := by decide +kernel
theorem dX12_tellList_84 : decode cX12_tellList 84 = .ok (.return_, 1) := by decide +kernel
theorem dX12_tellList_85 : decode cX12_tellList 85 = .ok (.aload_n 0, 1) := by decide +kernel
theorem dX12_tellList_86 : decode cX12_tellList 86 = .ok (.iconst 0, 1) := by decide +kernel
theorem dX12_tellList_87 : decode cX12_tellList 87 = .ok (.bipush 99, 2) := by decide +kernel
theorem dX12_tellList_89 : decode cX12_tellList 89 = .ok (.invokevirtual 289, 3) := by decide +kernel
theorem dX12_tellList_92 : decode cX12_tellList 92 = .ok (.istore 5, 2) := by decide +kernel
theorem dX12_tellList_94 : decode cX12_tellList 94 = .ok (.aload_n 0, 1) := by decide +kernel
theorem dX12_tellList_95 : decode cX12_tellList 95 = .ok (.getfield 213, 3) := by decide +kernel
theorem dX12_tellList_98 : decode cX12_tellList 98 = .ok (.ifCond .le 4, 3) := by decide +kernel
theorem dX12_tellList_101 : decode cX12_tellList 101 = .ok (.return_, 1) := by decide +kernel
theorem dX12_tellList_102 : decode cX12_tellList 102 = .ok (.aload_n 0, 1) := by decide +kernel
theorem dX12_tellList_103 : decode cX12_tellList 103 = .ok (.getfield 49, 3) := by decide +kernel
theorem dX12_tellList_106 : decode cX12_tellList 106 = .ok (.bipush 36, 2) := by decide +kernel
theorem dX12_tellList_108 : decode cX12_tellList 108 = .ok (.aload_n 0, 1) := by decide +kernel
theorem dX12_tellList_109 : decode cX12_tellList 109 = .ok (.getfield 246, 3) := by decide +kernel
theorem dX12_tellList_112 : decode cX12_tellList 112 = .ok (.imul, 1) := by decide +kernel
theorem dX12_tellList_113 : decode cX12_tellList 113 = .ok (.bipush 6, 2) := by decide +kernel
theorem dX12_tellList_115 : decode cX12_tellList 115 = .ok (.iload_n 1, 1) := by decide +kernel
theorem dX12_tellList_116 : decode cX12_tellList 116 = .ok (.imul, 1) := by decide +kernel
theorem dX12_tellList_117 : decode cX12_tellList 117 = .ok (.iadd, 1) := by decide +kernel
theorem dX12_tellList_118 : decode cX12_tellList 118 = .ok (.iload_n 3, 1) := by decide +kernel
theorem dX12_tellList_119 : decode cX12_tellList 119 = .ok (.iadd, 1) := by decide +kernel
theorem dX12_tellList_120 : decode cX12_tellList 120 = .ok (.iload 4, 2) := by decide +kernel
theorem dX12_tellList_122 : decode cX12_tellList 122 = .ok (.ifCond .eq 9, 3) := by decide +kernel
theorem dX12_tellList_125 : decode cX12_tellList 125 = .ok (.iload 5, 2) := by decide +kernel
theorem dX12_tellList_127 : decode cX12_tellList 127 = .ok (.ineg, 1) := by decide +kernel
theorem dX12_tellList_128 : decode cX12_tellList 128 = .ok (.goto 5, 3) := by decide +kernel
theorem dX12_tellList_131 : decode cX12_tellList 131 = .ok (.iload 5, 2) := by decide +kernel
theorem dX12_tellList_133 : decode cX12_tellList 133 = .ok (.iastore, 1) := by decide +kernel
theorem dX12_tellList_134 : decode cX12_tellList 134 = .ok (.iinc 3 1, 3) := by decide +kernel
theorem dX12_tellList_137 : decode cX12_tellList 137 = .ok (.goto (-120), 3) := by decide +kernel
theorem dX12_tellList_140 : decode cX12_tellList 140 = .ok (.aload_n 0, 1) := by decide +kernel
theorem dX12_tellList_141 : decode cX12_tellList 141 = .ok (.iconst 4, 1) := by decide +kernel
theorem dX12_tellList_142 : decode cX12_tellList 142 = .ok (.invokevirtual 293, 3) := by decide +kernel
theorem dX12_tellList_145 : decode cX12_tellList 145 = .ok (.aload_n 0, 1) := by decide +kernel
theorem dX12_tellList_146 : decode cX12_tellList 146 = .ok (.getfield 213, 3) := by decide +kernel
theorem dX12_tellList_149 : decode cX12_tellList 149 = .ok (.ifCond .le 4, 3) := by decide +kernel
theorem dX12_tellList_152 : decode cX12_tellList 152 = .ok (.return_, 1) := by decide +kernel
theorem dX12_tellList_153 : decode cX12_tellList 153 = .ok (.aload_n 0, 1) := by decide +kernel
theorem dX12_tellList_154 : decode cX12_tellList 154 = .ok (.getfield 46, 3) := by decide +kernel
theorem dX12_tellList_157 : decode cX12_tellList 157 = .ok (.bipush 6, 2) := by decide +kernel
theorem dX12_tellList_159 : decode cX12_tellList 159 = .ok (.aload_n 0, 1) := by decide +kernel
theorem dX12_tellList_160 : decode cX12_tellList 160 = .ok (.getfield 246, 3) := by decide +kernel
theorem dX12_tellList_163 : decode cX12_tellList 163 = .ok (.imul, 1) := by decide +kernel
theorem dX12_tellList_164 : decode cX12_tellList 164 = .ok (.iload_n 1, 1) := by decide +kernel
theorem dX12_tellList_165 : decode cX12_tellList 165 = .ok (.iadd, 1) := by decide +kernel
theorem dX12_tellList_166 : decode cX12_tellList 166 = .ok (.iload_n 3, 1) := by decide +kernel
theorem dX12_tellList_167 : decode cX12_tellList 167 = .ok (.iastore, 1) := by decide +kernel
theorem dX12_tellList_168 : decode cX12_tellList 168 = .ok (.aload_n 0, 1) := by decide +kernel
theorem dX12_tellList_169 : decode cX12_tellList 169 = .ok (.iload_n 2, 1) := by decide +kernel
theorem dX12_tellList_170 : decode cX12_tellList 170 = .ok (.invokevirtual 303, 3) := by decide +kernel
theorem dX12_tellList_173 : decode cX12_tellList 173 = .ok (.return_, 1) := by decide +kernel
theorem dX12_tellPrime_0 : decode cX12_tellPrime 0 = .ok (.aload_n 0, 1) := by decide +kernel
theorem dX12_tellPrime_1 : decode cX12_tellPrime 1 = .ok (.getfield 216, 3) := by decide +kernel
theorem dX12_tellPrime_4 : decode cX12_tellPrime 4 = .ok (.istore_n 1, 1) := by decide +kernel
theorem dX12_tellPrime_5 : decode cX12_tellPrime 5 = .ok (.aload_n 0, 1) := by decide +kernel
theorem dX12_tellPrime_6 : decode cX12_tellPrime 6 = .ok (.iconst 2, 1) := by decide +kernel
theorem dX12_tellPrime_7 : decode cX12_tellPrime 7 = .ok (.bipush 97, 2) := by decide +kernel
theorem dX12_tellPrime_9 : decode cX12_tellPrime 9 = .ok (.invokevirtual 289, 3) := by decide +kernel
theorem dX12_tellPrime_12 : decode cX12_tellPrime 12 = .ok (.istore_n 2, 1) := by decide +kernel
theorem dX12_tellPrime_13 : decode cX12_tellPrime 13 = .ok (.aload_n 0, 1) := by decide +kernel
theorem dX12_tellPrime_14 : decode cX12_tellPrime 14 = .ok (.iconst 4, 1) := by decide +kernel
theorem dX12_tellPrime_15 : decode cX12_tellPrime 15 = .ok (.invokevirtual 293, 3) := by decide +kernel
theorem dX12_tellPrime_18 : decode cX12_tellPrime 18 = .ok (.aload_n 0, 1) := by decide +kernel
theorem dX12_tellPrime_19 : decode cX12_tellPrime 19 = .ok (.getfield 213, 3) := by decide +kernel
theorem dX12_tellPrime_22 : decode cX12_tellPrime 22 = .ok (.ifCond .le 4, 3) := by decide +kernel
theorem dX12_tellPrime_25 : decode cX12_tellPrime 25 = .ok (.return_, 1) := by decide +kernel
theorem dX12_tellPrime_26 : decode cX12_tellPrime 26 = .ok (.aload_n 0, 1) := by decide +kernel
theorem dX12_tellPrime_27 : decode cX12_tellPrime 27 = .ok (.getfield 52, 3) := by decide +kernel
theorem dX12_tellPrime_30 : decode cX12_tellPrime 30 = .ok (.aload_n 0, 1) := by decide +kernel
theorem dX12_tellPrime_31 : decode cX12_tellPrime 31 = .ok (.getfield 246, 3) := by decide +kernel
theorem dX12_tellPrime_34 : decode cX12_tellPrime 34 = .ok (.iload_n 2, 1) := by decide +kernel
theorem dX12_tellPrime_35 : decode cX12_tellPrime 35 = .ok (.iastore, 1) := by decide +kernel
theorem dX12_tellPrime_36 : decode cX12_tellPrime 36 = .ok (.iconst 2, 1) := by decide +kernel
theorem dX12_tellPrime_37 : decode cX12_tellPrime 37 = .ok (.istore_n 3, 1) := by decide +kernel
theorem dX12_tellPrime_38 : decode cX12_tellPrime 38 = .ok (.iload_n 3, 1) := by decide +kernel
theorem dX12_tellPrime_39 : decode cX12_tellPrime 39 = .ok (.iload_n 2, 1) := by decide +kernel
theorem dX12_tellPrime_40 : decode cX12_tellPrime 40 = .ok (.if_icmp .ge 27, 3) := by decide +kernel
theorem dX12_tellPrime_43 : decode cX12_tellPrime 43 = .ok (.iload_n 2, 1) := by decide +kernel
theorem dX12_tellPrime_44 : decode cX12_tellPrime 44 = .ok (.bipush 98, 2) := by decide +kernel
theorem dX12_tellPrime_46 : decode cX12_tellPrime 46 = .ok (.if_icmp .ge 15, 3) := by decide +kernel
theorem dX12_tellPrime_49 : decode cX12_tellPrime 49 = .ok (.iload_n 2, 1) := by decide +kernel
theorem dX12_tellPrime_50 : decode cX12_tellPrime 50 = .ok (.iload_n 3, 1) := by decide +kernel
theorem dX12_tellPrime_51 : decode cX12_tellPrime 51 = .ok (.irem, 1) := by decide +kernel
theorem dX12_tellPrime_52 : decode cX12_tellPrime 52 = .ok (.ifCond .ne 9, 3) := by decide +kernel
theorem dX12_tellPrime_55 : decode cX12_tellPrime 55 = .ok (.aload_n 0, 1) := by decide +kernel
theorem dX12_tellPrime_56 : decode cX12_tellPrime 56 = .ok (.iconst 5, 1) := by decide +kernel
theorem dX12_tellPrime_57 : decode cX12_tellPrime 57 = .ok (.iload_n 1, 1) := by decide +kernel
theorem dX12_tellPrime_58 : decode cX12_tellPrime 58 = .ok (.invokevirtual 261, 3) := by decide +kernel
theorem dX12_tellPrime_61 : decode cX12_tellPrime 61 = .ok (.iinc 3 1, 3) := by decide +kernel
theorem dX12_tellPrime_64 : decode cX12_tellPrime 64 = .ok (.goto (-26), 3) := by decide +kernel
theorem dX12_tellPrime_67 : decode cX12_tellPrime 67 = .ok (.return_, 1) := by decide +kernel
theorem dX12_tellShare_0 : decode cX12_tellShare 0 = .ok (.bipush 8, 2) := by decide +kernel
theorem dX12_tellShare_2 : decode cX12_tellShare 2 = .ok (.aload_n 0, 1) := by decide +kernel
theorem dX12_tellShare_3 : decode cX12_tellShare 3 = .ok (.getfield 246, 3) := by decide +kernel
theorem dX12_tellShare_6 : decode cX12_tellShare 6 = .ok (.imul, 1) := by decide +kernel
theorem dX12_tellShare_7 : decode cX12_tellShare 7 = .ok (.aload_n 0, 1) := by decide +kernel
theorem dX12_tellShare_8 : decode cX12_tellShare 8 = .ok (.getfield 55, 3) := by decide +kernel
theorem dX12_tellShare_11 : decode cX12_tellShare 11 = .ok (.aload_n 0, 1) := by decide +kernel
theorem dX12_tellShare_12 : decode cX12_tellShare 12 = .ok (.getfield 246, 3) := by decide +kernel
theorem dX12_tellShare_15 : decode cX12_tellShare 15 = .ok (.iaload, 1) := by decide +kernel
theorem dX12_tellShare_16 : decode cX12_tellShare 16 = .ok (.iadd, 1) := by decide +kernel
theorem dX12_tellShare_17 : decode cX12_tellShare 17 = .ok (.istore_n 1, 1) := by decide +kernel
theorem dX12_tellShare_18 : decode cX12_tellShare 18 = .ok (.aload_n 0, 1) := by decide +kernel
theorem dX12_tellShare_19 : decode cX12_tellShare 19 = .ok (.getfield 216, 3) := by decide +kernel
theorem dX12_tellShare_22 : decode cX12_tellShare 22 = .ok (.istore_n 2, 1) := by decide +kernel
theorem dX12_tellShare_23 : decode cX12_tellShare 23 = .ok (.aload_n 0, 1) := by decide +kernel
theorem dX12_tellShare_24 : decode cX12_tellShare 24 = .ok (.iconst 1, 1) := by decide +kernel
theorem dX12_tellShare_25 : decode cX12_tellShare 25 = .ok (.bipush 96, 2) := by decide +kernel
theorem dX12_tellShare_27 : decode cX12_tellShare 27 = .ok (.invokevirtual 289, 3) := by decide +kernel
theorem dX12_tellShare_30 : decode cX12_tellShare 30 = .ok (.istore_n 3, 1) := by decide +kernel
theorem dX12_tellShare_31 : decode cX12_tellShare 31 = .ok (.iconst 0, 1) := by decide +kernel
theorem dX12_tellShare_32 : decode cX12_tellShare 32 = .ok (.istore 4, 2) := by decide +kernel
theorem dX12_tellShare_34 : decode cX12_tellShare 34 = .ok (.iload 4, 2) := by decide +kernel
theorem dX12_tellShare_36 : decode cX12_tellShare 36 = .ok (.aload_n 0, 1) := by decide +kernel
theorem dX12_tellShare_37 : decode cX12_tellShare 37 = .ok (.getfield 55, 3) := by decide +kernel
theorem dX12_tellShare_40 : decode cX12_tellShare 40 = .ok (.aload_n 0, 1) := by decide +kernel
theorem dX12_tellShare_41 : decode cX12_tellShare 41 = .ok (.getfield 246, 3) := by decide +kernel
theorem dX12_tellShare_44 : decode cX12_tellShare 44 = .ok (.iaload, 1) := by decide +kernel
theorem dX12_tellShare_45 : decode cX12_tellShare 45 = .ok (.if_icmp .ge 41, 3) := by decide +kernel
theorem dX12_tellShare_48 : decode cX12_tellShare 48 = .ok (.aload_n 0, 1) := by decide +kernel
theorem dX12_tellShare_49 : decode cX12_tellShare 49 = .ok (.getfield 213, 3) := by decide +kernel
theorem dX12_tellShare_52 : decode cX12_tellShare 52 = .ok (.ifCond .ne 34, 3) := by decide +kernel
theorem dX12_tellShare_55 : decode cX12_tellShare 55 = .ok (.aload_n 0, 1) := by decide +kernel
theorem dX12_tellShare_56 : decode cX12_tellShare 56 = .ok (.getfield 58, 3) := by decide +kernel
theorem dX12_tellShare_59 : decode cX12_tellShare 59 = .ok (.bipush 8, 2) := by decide +kernel
theorem dX12_tellShare_61 : decode cX12_tellShare 61 = .ok (.aload_n 0, 1) := by decide +kernel
theorem dX12_tellShare_62 : decode cX12_tellShare 62 = .ok (.getfield 246, 3) := by decide +kernel
theorem dX12_tellShare_65 : decode cX12_tellShare 65 = .ok (.imul, 1) := by decide +kernel
theorem dX12_tellShare_66 : decode cX12_tellShare 66 = .ok (.iload 4, 2) := by decide +kernel
theorem dX12_tellShare_68 : decode cX12_tellShare 68 = .ok (.iadd, 1) := by decide +kernel
theorem dX12_tellShare_69 : decode cX12_tellShare 69 = .ok (.iaload, 1) := by decide +kernel
theorem dX12_tellShare_70 : decode cX12_tellShare 70 = .ok (.iload_n 3, 1) := by decide +kernel
theorem dX12_tellShare_71 : decode cX12_tellShare 71 = .ok (.if_icmp .ne 9, 3) := by decide +kernel
theorem dX12_tellShare_74 : decode cX12_tellShare 74 = .ok (.aload_n 0, 1) := by decide +kernel
theorem dX12_tellShare_75 : decode cX12_tellShare 75 = .ok (.iconst 5, 1) := by decide +kernel
theorem dX12_tellShare_76 : decode cX12_tellShare 76 = .ok (.iload_n 2, 1) := by decide +kernel
theorem dX12_tellShare_77 : decode cX12_tellShare 77 = .ok (.invokevirtual 261, 3) := by decide +kernel
theorem dX12_tellShare_80 : decode cX12_tellShare 80 = .ok (.iinc 4 1, 3) := by decide +kernel
theorem dX12_tellShare_83 : decode cX12_tellShare 83 = .ok (.goto (-49), 3) := by decide +kernel
theorem dX12_tellShare_86 : decode cX12_tellShare 86 = .ok (.aload_n 0, 1) := by decide +kernel
theorem dX12_tellShare_87 : decode cX12_tellShare 87 = .ok (.getfield 58, 3) := by decide +kernel
theorem dX12_tellShare_90 : decode cX12_tellShare 90 = .ok (.iload_n 1, 1) := by decide +kernel
theorem dX12_tellShare_91 : decode cX12_tellShare 91 = .ok (.iload_n 3, 1) := by decide +kernel
theorem dX12_tellShare_92 : decode cX12_tellShare 92 = .ok (.iastore, 1) := by decide +kernel
theorem dX12_tellShare_93 : decode cX12_tellShare 93 = .ok (.aload_n 0, 1) := by decide +kernel
theorem dX12_tellShare_94 : decode cX12_tellShare 94 = .ok (.getfield 64, 3) := by decide +kernel
theorem dX12_tellShare_97 : decode cX12_tellShare 97 = .ok (.iload_n 1, 1) := by decide +kernel
theorem dX12_tellShare_98 : decode cX12_tellShare 98 = .ok (.iload_n 2, 1) := by decide +kernel
theorem dX12_tellShare_99 : decode cX12_tellShare 99 = .ok (.iastore, 1) := by decide +kernel
theorem dX12_tellShare_100 : decode cX12_tellShare 100 = .ok (.aload_n 0, 1) := by decide +kernel
theorem dX12_tellShare_101 : decode cX12_tellShare 101 = .ok (.getfield 61, 3) := by decide +kernel
theorem dX12_tellShare_104 : decode cX12_tellShare 104 = .ok (.iload_n 1, 1) := by decide +kernel
theorem dX12_tellShare_105 : decode cX12_tellShare 105 = .ok (.aload_n 0, 1) := by decide +kernel
theorem dX12_tellShare_106 : decode cX12_tellShare 106 = .ok (.iconst 0, 1) := by decide +kernel
theorem dX12_tellShare_107 : decode cX12_tellShare 107 = .ok (.bipush 96, 2) := by decide +kernel
theorem dX12_tellShare_109 : decode cX12_tellShare 109 = .ok (.invokevirtual 289, 3) := by decide +kernel
theorem dX12_tellShare_112 : decode cX12_tellShare 112 = .ok (.iastore, 1) := by decide +kernel
theorem dX12_tellShare_113 : decode cX12_tellShare 113 = .ok (.aload_n 0, 1) := by decide +kernel
theorem dX12_tellShare_114 : decode cX12_tellShare 114 = .ok (.iconst 4, 1) := by decide +kernel
theorem dX12_tellShare_115 : decode cX12_tellShare 115 = .ok (.invokevirtual 293, 3) := by decide +kernel
theorem dX12_tellShare_118 : decode cX12_tellShare 118 = .ok (.aload_n 0, 1) := by decide +kernel
theorem dX12_tellShare_119 : decode cX12_tellShare 119 = .ok (.getfield 213, 3) := by decide +kernel
theorem dX12_tellShare_122 : decode cX12_tellShare 122 = .ok (.ifCond .ne 16, 3) := by decide +kernel
theorem dX12_tellShare_125 : decode cX12_tellShare 125 = .ok (.aload_n 0, 1) := by decide +kernel
theorem dX12_tellShare_126 : decode cX12_tellShare 126 = .ok (.getfield 55, 3) := by decide +kernel
theorem dX12_tellShare_129 : decode cX12_tellShare 129 = .ok (.aload_n 0, 1) := by decide +kernel
theorem dX12_tellShare_130 : decode cX12_tellShare 130 = .ok (.getfield 246, 3) := by decide +kernel
theorem dX12_tellShare_133 : decode cX12_tellShare 133 = .ok (.dup2, 1) := by decide +kernel
theorem dX12_tellShare_134 : decode cX12_tellShare 134 = .ok (.iaload, 1) := by decide +kernel
theorem dX12_tellShare_135 : decode cX12_tellShare 135 = .ok (.iconst 1, 1) := by decide +kernel
theorem dX12_tellShare_136 : decode cX12_tellShare 136 = .ok (.iadd, 1) := by decide +kernel
theorem dX12_tellShare_137 : decode cX12_tellShare 137 = .ok (.iastore, 1) := by decide +kernel
theorem dX12_tellShare_138 : decode cX12_tellShare 138 = .ok (.return_, 1) := by decide +kernel
theorem dX12_tellLaw_0 : decode cX12_tellLaw 0 = .ok (.aload_n 0, 1) := by decide +kernel
theorem dX12_tellLaw_1 : decode cX12_tellLaw 1 = .ok (.iconst 5, 1) := by decide +kernel
theorem dX12_tellLaw_2 : decode cX12_tellLaw 2 = .ok (.invokevirtual 293, 3) := by decide +kernel
theorem dX12_tellLaw_5 : decode cX12_tellLaw 5 = .ok (.aload_n 0, 1) := by decide +kernel
theorem dX12_tellLaw_6 : decode cX12_tellLaw 6 = .ok (.getfield 252, 3) := by decide +kernel
theorem dX12_tellLaw_9 : decode cX12_tellLaw 9 = .ok (.istore_n 2, 1) := by decide +kernel
theorem dX12_tellLaw_10 : decode cX12_tellLaw 10 = .ok (.iconst 0, 1) := by decide +kernel
theorem dX12_tellLaw_11 : decode cX12_tellLaw 11 = .ok (.istore_n 3, 1) := by decide +kernel
theorem dX12_tellLaw_12 : decode cX12_tellLaw 12 = .ok (.aload_n 0, 1) := by decide +kernel
theorem dX12_tellLaw_13 : decode cX12_tellLaw 13 = .ok (.getfield 213, 3) := by decide +kernel
theorem dX12_tellLaw_16 : decode cX12_tellLaw 16 = .ok (.ifCond .ne 113, 3) := by decide +kernel
theorem dX12_tellLaw_19 : decode cX12_tellLaw 19 = .ok (.aload_n 0, 1) := by decide +kernel
theorem dX12_tellLaw_20 : decode cX12_tellLaw 20 = .ok (.bipush 28, 2) := by decide +kernel
theorem dX12_tellLaw_22 : decode cX12_tellLaw 22 = .ok (.invokevirtual 231, 3) := by decide +kernel
theorem dX12_tellLaw_25 : decode cX12_tellLaw 25 = .ok (.ifCond .eq 104, 3) := by decide +kernel
theorem dX12_tellLaw_28 : decode cX12_tellLaw 28 = .ok (.iload_n 3, 1) := by decide +kernel
theorem dX12_tellLaw_29 : decode cX12_tellLaw 29 = .ok (.iconst 4, 1) := by decide +kernel
theorem dX12_tellLaw_30 : decode cX12_tellLaw 30 = .ok (.if_icmp .ne 8, 3) := by decide +kernel
theorem dX12_tellLaw_33 : decode cX12_tellLaw 33 = .ok (.aload_n 0, 1) := by decide +kernel
theorem dX12_tellLaw_34 : decode cX12_tellLaw 34 = .ok (.iconst 2, 1) := by decide +kernel
theorem dX12_tellLaw_35 : decode cX12_tellLaw 35 = .ok (.invokevirtual 228, 3) := by decide +kernel
theorem dX12_tellLaw_38 : decode cX12_tellLaw 38 = .ok (.aload_n 0, 1) := by decide +kernel
theorem dX12_tellLaw_39 : decode cX12_tellLaw 39 = .ok (.getfield 213, 3) := by decide +kernel
theorem dX12_tellLaw_42 : decode cX12_tellLaw 42 = .ok (.ifCond .le 4, 3) := by decide +kernel
theorem dX12_tellLaw_45 : decode cX12_tellLaw 45 = .ok (.return_, 1) := by decide +kernel
theorem dX12_tellLaw_46 : decode cX12_tellLaw 46 = .ok (.iinc 3 1, 3) := by decide +kernel
theorem dX12_tellLaw_49 : decode cX12_tellLaw 49 = .ok (.aload_n 0, 1) := by decide +kernel
theorem dX12_tellLaw_50 : decode cX12_tellLaw 50 = .ok (.invokevirtual 234, 3) := by decide +kernel
theorem dX12_tellLaw_53 : decode cX12_tellLaw 53 = .ok (.aload_n 0, 1) := by decide +kernel
theorem dX12_tellLaw_54 : decode cX12_tellLaw 54 = .ok (.getfield 88, 3) := by decide +kernel
theorem dX12_tellLaw_57 : decode cX12_tellLaw 57 = .ok (.aload_n 0, 1) := by decide +kernel
theorem dX12_tellLaw_58 : decode cX12_tellLaw 58 = .ok (.getfield 252, 3) := by decide +kernel
theorem dX12_tellLaw_61 : decode cX12_tellLaw 61 = .ok (.iconst 1, 1) := by decide +kernel
theorem dX12_tellLaw_62 : decode cX12_tellLaw 62 = .ok (.bastore, 1) := by decide +kernel
theorem dX12_tellLaw_63 : decode cX12_tellLaw 63 = .ok (.aload_n 0, 1) := by decide +kernel
theorem dX12_tellLaw_64 : decode cX12_tellLaw 64 = .ok (.getfield 92, 3) := by decide +kernel
theorem dX12_tellLaw_67 : decode cX12_tellLaw 67 = .ok (.aload_n 0, 1) := by decide +kernel
theorem dX12_tellLaw_68 : decode cX12_tellLaw 68 = .ok (.getfield 252, 3) := by decide +kernel
theorem dX12_tellLaw_71 : decode cX12_tellLaw 71 = .ok (.aload_n 0, 1) := by decide +kernel
theorem dX12_tellLaw_72 : decode cX12_tellLaw 72 = .ok (.getfield 255, 3) := by decide +kernel
theorem dX12_tellLaw_75 : decode cX12_tellLaw 75 = .ok (.iastore, 1) := by decide +kernel
theorem dX12_tellLaw_76 : decode cX12_tellLaw 76 = .ok (.aload_n 0, 1) := by decide +kernel
theorem dX12_tellLaw_77 : decode cX12_tellLaw 77 = .ok (.invokevirtual 306, 3) := by decide +kernel
theorem dX12_tellLaw_80 : decode cX12_tellLaw 80 = .ok (.aload_n 0, 1) := by decide +kernel
theorem dX12_tellLaw_81 : decode cX12_tellLaw 81 = .ok (.bipush 13, 2) := by decide +kernel
theorem dX12_tellLaw_83 : decode cX12_tellLaw 83 = .ok (.invokevirtual 293, 3) := by decide +kernel
theorem dX12_tellLaw_86 : decode cX12_tellLaw 86 = .ok (.aload_n 0, 1) := by decide +kernel
theorem dX12_tellLaw_87 : decode cX12_tellLaw 87 = .ok (.getfield 95, 3) := by decide +kernel
theorem dX12_tellLaw_90 : decode cX12_tellLaw 90 = .ok (.aload_n 0, 1) := by decide +kernel
theorem dX12_tellLaw_91 : decode cX12_tellLaw 91 = .ok (.getfield 252, 3) := by decide +kernel
theorem dX12_tellLaw_94 : decode cX12_tellLaw 94 = .ok (.aload_n 0, 1) := by decide +kernel
theorem dX12_tellLaw_95 : decode cX12_tellLaw 95 = .ok (.getfield 255, 3) := by decide +kernel
theorem dX12_tellLaw_98 : decode cX12_tellLaw 98 = .ok (.iastore, 1) := by decide +kernel
theorem dX12_tellLaw_99 : decode cX12_tellLaw 99 = .ok (.aload_n 0, 1) := by decide +kernel
theorem dX12_tellLaw_100 : decode cX12_tellLaw 100 = .ok (.getfield 213, 3) := by decide +kernel
theorem dX12_tellLaw_103 : decode cX12_tellLaw 103 = .ok (.ifCond .ne 7, 3) := by decide +kernel
theorem dX12_tellLaw_106 : decode cX12_tellLaw 106 = .ok (.aload_n 0, 1) := by decide +kernel
theorem dX12_tellLaw_107 : decode cX12_tellLaw 107 = .ok (.invokevirtual 306, 3) := by decide +kernel
theorem dX12_tellLaw_110 : decode cX12_tellLaw 110 = .ok (.aload_n 0, 1) := by decide +kernel
theorem dX12_tellLaw_111 : decode cX12_tellLaw 111 = .ok (.bipush 29, 2) := by decide +kernel
theorem dX12_tellLaw_113 : decode cX12_tellLaw 113 = .ok (.invokevirtual 293, 3) := by decide +kernel
theorem dX12_tellLaw_116 : decode cX12_tellLaw 116 = .ok (.aload_n 0, 1) := by decide +kernel
theorem dX12_tellLaw_117 : decode cX12_tellLaw 117 = .ok (.invokevirtual 309, 3) := by decide +kernel
theorem dX12_tellLaw_120 : decode cX12_tellLaw 120 = .ok (.aload_n 0, 1) := by decide +kernel
theorem dX12_tellLaw_121 : decode cX12_tellLaw 121 = .ok (.bipush 30, 2) := by decide +kernel
theorem dX12_tellLaw_123 : decode cX12_tellLaw 123 = .ok (.invokevirtual 293, 3) := by decide +kernel
theorem dX12_tellLaw_126 : decode cX12_tellLaw 126 = .ok (.goto (-114), 3) := by decide +kernel
theorem dX12_tellLaw_129 : decode cX12_tellLaw 129 = .ok (.aload_n 0, 1) := by decide +kernel
theorem dX12_tellLaw_130 : decode cX12_tellLaw 130 = .ok (.getfield 88, 3) := by decide +kernel
theorem dX12_tellLaw_133 : decode cX12_tellLaw 133 = .ok (.aload_n 0, 1) := by decide +kernel
theorem dX12_tellLaw_134 : decode cX12_tellLaw 134 = .ok (.getfield 252, 3) := by decide +kernel
theorem dX12_tellLaw_137 : decode cX12_tellLaw 137 = .ok (.iconst 0, 1) := by decide +kernel
theorem dX12_tellLaw_138 : decode cX12_tellLaw 138 = .ok (.bastore, 1) := by decide +kernel
theorem dX12_tellLaw_139 : decode cX12_tellLaw 139 = .ok (.aload_n 0, 1) := by decide +kernel
theorem dX12_tellLaw_140 : decode cX12_tellLaw 140 = .ok (.invokevirtual 309, 3) := by decide +kernel
theorem dX12_tellLaw_143 : decode cX12_tellLaw 143 = .ok (.aload_n 0, 1) := by decide +kernel
theorem dX12_tellLaw_144 : decode cX12_tellLaw 144 = .ok (.iconst 4, 1) := by decide +kernel
theorem dX12_tellLaw_145 : decode cX12_tellLaw 145 = .ok (.invokevirtual 293, 3) := by decide +kernel
theorem dX12_tellLaw_148 : decode cX12_tellLaw 148 = .ok (.aload_n 0, 1) := by decide +kernel
theorem dX12_tellLaw_149 : decode cX12_tellLaw 149 = .ok (.getfield 213, 3) := by decide +kernel
theorem dX12_tellLaw_152 : decode cX12_tellLaw 152 = .ok (.ifCond .le 4, 3) := by decide +kernel
theorem dX12_tellLaw_155 : decode cX12_tellLaw 155 = .ok (.return_, 1) := by decide +kernel
theorem dX12_tellLaw_156 : decode cX12_tellLaw 156 = .ok (.aload_n 0, 1) := by decide +kernel
theorem dX12_tellLaw_157 : decode cX12_tellLaw 157 = .ok (.getfield 82, 3) := by decide +kernel
theorem dX12_tellLaw_160 : decode cX12_tellLaw 160 = .ok (.iconst 2, 1) := by decide +kernel
theorem dX12_tellLaw_161 : decode cX12_tellLaw 161 = .ok (.aload_n 0, 1) := by decide +kernel
theorem dX12_tellLaw_162 : decode cX12_tellLaw 162 = .ok (.getfield 246, 3) := by decide +kernel
theorem dX12_tellLaw_165 : decode cX12_tellLaw 165 = .ok (.imul, 1) := by decide +kernel
theorem dX12_tellLaw_166 : decode cX12_tellLaw 166 = .ok (.iload_n 1, 1) := by decide +kernel
theorem dX12_tellLaw_167 : decode cX12_tellLaw 167 = .ok (.iadd, 1) := by decide +kernel
theorem dX12_tellLaw_168 : decode cX12_tellLaw 168 = .ok (.iload_n 2, 1) := by decide +kernel
theorem dX12_tellLaw_169 : decode cX12_tellLaw 169 = .ok (.iastore, 1) := by decide +kernel
theorem dX12_tellLaw_170 : decode cX12_tellLaw 170 = .ok (.aload_n 0, 1) := by decide +kernel
theorem dX12_tellLaw_171 : decode cX12_tellLaw 171 = .ok (.getfield 85, 3) := by decide +kernel
theorem dX12_tellLaw_174 : decode cX12_tellLaw 174 = .ok (.iconst 2, 1) := by decide +kernel
theorem dX12_tellLaw_175 : decode cX12_tellLaw 175 = .ok (.aload_n 0, 1) := by decide +kernel
theorem dX12_tellLaw_176 : decode cX12_tellLaw 176 = .ok (.getfield 246, 3) := by decide +kernel
theorem dX12_tellLaw_179 : decode cX12_tellLaw 179 = .ok (.imul, 1) := by decide +kernel
theorem dX12_tellLaw_180 : decode cX12_tellLaw 180 = .ok (.iload_n 1, 1) := by decide +kernel
theorem dX12_tellLaw_181 : decode cX12_tellLaw 181 = .ok (.iadd, 1) := by decide +kernel
theorem dX12_tellLaw_182 : decode cX12_tellLaw 182 = .ok (.aload_n 0, 1) := by decide +kernel
theorem dX12_tellLaw_183 : decode cX12_tellLaw 183 = .ok (.getfield 252, 3) := by decide +kernel
theorem dX12_tellLaw_186 : decode cX12_tellLaw 186 = .ok (.iastore, 1) := by decide +kernel
theorem dX12_tellLaw_187 : decode cX12_tellLaw 187 = .ok (.return_, 1) := by decide +kernel
theorem dX12_term_0 : decode cX12_term 0 = .ok (.aload_n 0, 1) := by decide +kernel
theorem dX12_term_1 : decode cX12_term 1 = .ok (.getfield 98, 3) := by decide +kernel
theorem dX12_term_4 : decode cX12_term 4 = .ok (.aload_n 0, 1) := by decide +kernel
theorem dX12_term_5 : decode cX12_term 5 = .ok (.getfield 252, 3) := by decide +kernel
theorem dX12_term_8 : decode cX12_term 8 = .ok (.aload_n 0, 1) := by decide +kernel
theorem dX12_term_9 : decode cX12_term 9 = .ok (.getfield 255, 3) := by decide +kernel
theorem dX12_term_12 : decode cX12_term 12 = .ok (.iastore, 1) := by decide +kernel
theorem dX12_term_13 : decode cX12_term 13 = .ok (.aload_n 0, 1) := by decide +kernel
theorem dX12_term_14 : decode cX12_term 14 = .ok (.getfield 213, 3) := by decide +kernel
theorem dX12_term_17 : decode cX12_term 17 = .ok (.ifCond .ne 7, 3) := by decide +kernel
theorem dX12_term_20 : decode cX12_term 20 = .ok (.aload_n 0, 1) := by decide +kernel
theorem dX12_term_21 : decode cX12_term 21 = .ok (.invokevirtual 306, 3) := by decide +kernel
theorem dX12_term_24 : decode cX12_term 24 = .ok (.aload_n 0, 1) := by decide +kernel
theorem dX12_term_25 : decode cX12_term 25 = .ok (.getfield 101, 3) := by decide +kernel
theorem dX12_term_28 : decode cX12_term 28 = .ok (.aload_n 0, 1) := by decide +kernel
theorem dX12_term_29 : decode cX12_term 29 = .ok (.getfield 252, 3) := by decide +kernel
theorem dX12_term_32 : decode cX12_term 32 = .ok (.aload_n 0, 1) := by decide +kernel
theorem dX12_term_33 : decode cX12_term 33 = .ok (.getfield 255, 3) := by decide +kernel
theorem dX12_term_36 : decode cX12_term 36 = .ok (.iastore, 1) := by decide +kernel
theorem dX12_term_37 : decode cX12_term 37 = .ok (.aload_n 0, 1) := by decide +kernel
theorem dX12_term_38 : decode cX12_term 38 = .ok (.dup, 1) := by decide +kernel
theorem dX12_term_39 : decode cX12_term 39 = .ok (.getfield 252, 3) := by decide +kernel
theorem dX12_term_42 : decode cX12_term 42 = .ok (.iconst 1, 1) := by decide +kernel
theorem dX12_term_43 : decode cX12_term 43 = .ok (.iadd, 1) := by decide +kernel
theorem dX12_term_44 : decode cX12_term 44 = .ok (.putfield 252, 3) := by decide +kernel
theorem dX12_term_47 : decode cX12_term 47 = .ok (.return_, 1) := by decide +kernel
theorem dX12_emit_0 : decode cX12_emit 0 = .ok (.aload_n 0, 1) := by decide +kernel
theorem dX12_emit_1 : decode cX12_emit 1 = .ok (.getfield 104, 3) := by decide +kernel
theorem dX12_emit_4 : decode cX12_emit 4 = .ok (.aload_n 0, 1) := by decide +kernel
theorem dX12_emit_5 : decode cX12_emit 5 = .ok (.getfield 255, 3) := by decide +kernel
theorem dX12_emit_8 : decode cX12_emit 8 = .ok (.iload_n 1, 1) := by decide +kernel
theorem dX12_emit_9 : decode cX12_emit 9 = .ok (.iastore, 1) := by decide +kernel
theorem dX12_emit_10 : decode cX12_emit 10 = .ok (.aload_n 0, 1) := by decide +kernel
theorem dX12_emit_11 : decode cX12_emit 11 = .ok (.getfield 107, 3) := by decide +kernel
theorem dX12_emit_14 : decode cX12_emit 14 = .ok (.aload_n 0, 1) := by decide +kernel
theorem dX12_emit_15 : decode cX12_emit 15 = .ok (.getfield 255, 3) := by decide +kernel
theorem dX12_emit_18 : decode cX12_emit 18 = .ok (.iload_n 2, 1) := by decide +kernel
theorem dX12_emit_19 : decode cX12_emit 19 = .ok (.iastore, 1) := by decide +kernel
theorem dX12_emit_20 : decode cX12_emit 20 = .ok (.aload_n 0, 1) := by decide +kernel
theorem dX12_emit_21 : decode cX12_emit 21 = .ok (.dup, 1) := by decide +kernel
theorem dX12_emit_22 : decode cX12_emit 22 = .ok (.getfield 255, 3) := by decide +kernel
theorem dX12_emit_25 : decode cX12_emit 25 = .ok (.iconst 1, 1) := by decide +kernel
theorem dX12_emit_26 : decode cX12_emit 26 = .ok (.iadd, 1) := by decide +kernel
theorem dX12_emit_27 : decode cX12_emit 27 = .ok (.putfield 255, 3) := by decide +kernel
theorem dX12_emit_30 : decode cX12_emit 30 = .ok (.return_, 1) := by decide +kernel
theorem dX12_comesOut_0 : decode cX12_comesOut 0 = .ok (.aload_n 0, 1) := by decide +kernel
theorem dX12_comesOut_1 : decode cX12_comesOut 1 = .ok (.getfield 312, 3) := by decide +kernel
theorem dX12_comesOut_4 : decode cX12_comesOut 4 = .ok (.ifCond .le 87, 3) := by decide +kernel
theorem dX12_comesOut_7 : decode cX12_comesOut 7 = .ok (.aload_n 0, 1) := by decide +kernel
theorem dX12_comesOut_8 : decode cX12_comesOut 8 = .ok (.getfield 110, 3) := by decide +kernel
theorem dX12_comesOut_11 : decode cX12_comesOut 11 = .ok (.aload_n 0, 1) := by decide +kernel
theorem dX12_comesOut_12 : decode cX12_comesOut 12 = .ok (.getfield 312, 3) := by decide +kernel
theorem dX12_comesOut_15 : decode cX12_comesOut 15 = .ok (.iconst 1, 1) := by decide +kernel
theorem dX12_comesOut_16 : decode cX12_comesOut 16 = .ok (.isub, 1) := by decide +kernel
theorem dX12_comesOut_17 : decode cX12_comesOut 17 = .ok (.iaload, 1) := by decide +kernel
theorem dX12_comesOut_18 : decode cX12_comesOut 18 = .ok (.istore_n 2, 1) := by decide +kernel
theorem dX12_comesOut_19 : decode cX12_comesOut 19 = .ok (.iload_n 2, 1) := by decide +kernel
theorem dX12_comesOut_20 : decode cX12_comesOut 20 = .ok (.bipush 6, 2) := by decide +kernel
theorem dX12_comesOut_22 : decode cX12_comesOut 22 = .ok (.if_icmp .eq 19, 3) := by decide +kernel
theorem dX12_comesOut_25 : decode cX12_comesOut 25 = .ok (.iload_n 1, 1) := by decide +kernel
theorem dX12_comesOut_26 : decode cX12_comesOut 26 = .ok (.ifCond .eq 16, 3) := by decide +kernel
theorem dX12_comesOut_29 : decode cX12_comesOut 29 = .ok (.iload_n 2, 1) := by decide +kernel
theorem dX12_comesOut_30 : decode cX12_comesOut 30 = .ok (.bipush 8, 2) := by decide +kernel
theorem dX12_comesOut_32 : decode cX12_comesOut 32 = .ok (.if_icmp .eq 9, 3) := by decide +kernel
theorem dX12_comesOut_35 : decode cX12_comesOut 35 = .ok (.iload_n 2, 1) := by decide +kernel
theorem dX12_comesOut_36 : decode cX12_comesOut 36 = .ok (.bipush 9, 2) := by decide +kernel
theorem dX12_comesOut_38 : decode cX12_comesOut 38 = .ok (.if_icmp .ne 4, 3) := by decide +kernel
theorem dX12_comesOut_41 : decode cX12_comesOut 41 = .ok (.return_, 1) := by decide +kernel
theorem dX12_comesOut_42 : decode cX12_comesOut 42 = .ok (.aload_n 0, 1) := by decide +kernel
theorem dX12_comesOut_43 : decode cX12_comesOut 43 = .ok (.dup, 1) := by decide +kernel
theorem dX12_comesOut_44 : decode cX12_comesOut 44 = .ok (.getfield 312, 3) := by decide +kernel
theorem dX12_comesOut_47 : decode cX12_comesOut 47 = .ok (.iconst 1, 1) := by decide +kernel
theorem dX12_comesOut_48 : decode cX12_comesOut 48 = .ok (.isub, 1) := by decide +kernel
theorem dX12_comesOut_49 : decode cX12_comesOut 49 = .ok (.putfield 312, 3) := by decide +kernel
theorem dX12_comesOut_52 : decode cX12_comesOut 52 = .ok (.aload_n 0, 1) := by decide +kernel
theorem dX12_comesOut_53 : decode cX12_comesOut 53 = .ok (.iload_n 2, 1) := by decide +kernel
theorem dX12_comesOut_54 : decode cX12_comesOut 54 = .ok (.bipush 8, 2) := by decide +kernel
theorem dX12_comesOut_56 : decode cX12_comesOut 56 = .ok (.if_icmp .ne 7, 3) := by decide +kernel
theorem dX12_comesOut_59 : decode cX12_comesOut 59 = .ok (.iconst 2, 1) := by decide +kernel
theorem dX12_comesOut_60 : decode cX12_comesOut 60 = .ok (.goto 24, 3) := by decide +kernel
theorem dX12_comesOut_63 : decode cX12_comesOut 63 = .ok (.iload_n 2, 1) := by decide +kernel
theorem dX12_comesOut_64 : decode cX12_comesOut 64 = .ok (.bipush 9, 2) := by decide +kernel
theorem dX12_comesOut_66 : decode cX12_comesOut 66 = .ok (.if_icmp .ne 7, 3) := by decide +kernel
theorem dX12_comesOut_69 : decode cX12_comesOut 69 = .ok (.iconst 3, 1) := by decide +kernel
theorem dX12_comesOut_70 : decode cX12_comesOut 70 = .ok (.goto 14, 3) := by decide +kernel
theorem dX12_comesOut_73 : decode cX12_comesOut 73 = .ok (.iload_n 2, 1) := by decide +kernel
theorem dX12_comesOut_74 : decode cX12_comesOut 74 = .ok (.bipush 10, 2) := by decide +kernel
theorem dX12_comesOut_76 : decode cX12_comesOut 76 = .ok (.if_icmp .ne 7, 3) := by decide +kernel
theorem dX12_comesOut_79 : decode cX12_comesOut 79 = .ok (.iconst 4, 1) := by decide +kernel
theorem dX12_comesOut_80 : decode cX12_comesOut 80 = .ok (.goto 4, 3) := by decide +kernel
theorem dX12_comesOut_83 : decode cX12_comesOut 83 = .ok (.iconst 5, 1) := by decide +kernel
theorem dX12_comesOut_84 : decode cX12_comesOut 84 = .ok (.iconst 0, 1) := by decide +kernel
theorem dX12_comesOut_85 : decode cX12_comesOut 85 = .ok (.invokevirtual 315, 3) := by decide +kernel
theorem dX12_comesOut_88 : decode cX12_comesOut 88 = .ok (.goto (-88), 3) := by decide +kernel
theorem dX12_comesOut_91 : decode cX12_comesOut 91 = .ok (.return_, 1) := by decide +kernel
theorem dX12_expression_0 : decode cX12_expression 0 = .ok (.aload_n 0, 1) := by decide +kernel
theorem dX12_expression_1 : decode cX12_expression 1 = .ok (.iconst 0, 1) := by decide +kernel
theorem dX12_expression_2 : decode cX12_expression 2 = .ok (.putfield 312, 3) := by decide +kernel
theorem dX12_expression_5 : decode cX12_expression 5 = .ok (.aload_n 0, 1) := by decide +kernel
theorem dX12_expression_6 : decode cX12_expression 6 = .ok (.getfield 240, 3) := by decide +kernel
theorem dX12_expression_9 : decode cX12_expression 9 = .ok (.istore_n 1, 1) := by decide +kernel
theorem dX12_expression_10 : decode cX12_expression 10 = .ok (.iconst 1, 1) := by decide +kernel
theorem dX12_expression_11 : decode cX12_expression 11 = .ok (.istore_n 2, 1) := by decide +kernel
theorem dX12_expression_12 : decode cX12_expression 12 = .ok (.iload_n 2, 1) := by decide +kernel
theorem dX12_expression_13 : decode cX12_expression 13 = .ok (.ifCond .eq 259, 3) := by decide +kernel
theorem dX12_expression_16 : decode cX12_expression 16 = .ok (.aload_n 0, 1) := by decide +kernel
theorem dX12_expression_17 : decode cX12_expression 17 = .ok (.getfield 213, 3) := by decide +kernel
theorem dX12_expression_20 : decode cX12_expression 20 = .ok (.ifCond .ne 252, 3) := by decide +kernel
theorem dX12_expression_23 : decode cX12_expression 23 = .ok (.aload_n 0, 1) := by decide +kernel
theorem dX12_expression_24 : decode cX12_expression 24 = .ok (.bipush 6, 2) := by decide +kernel
theorem dX12_expression_26 : decode cX12_expression 26 = .ok (.invokevirtual 231, 3) := by decide +kernel
theorem dX12_expression_29 : decode cX12_expression 29 = .ok (.ifCond .eq 55, 3) := by decide +kernel
theorem dX12_expression_32 : decode cX12_expression 32 = .ok (.aload_n 0, 1) := by decide +kernel
theorem dX12_expression_33 : decode cX12_expression 33 = .ok (.getfield 240, 3) := by decide +kernel
theorem dX12_expression_36 : decode cX12_expression 36 = .ok (.bipush 6, 2) := by decide +kernel
theorem dX12_expression_38 : decode cX12_expression 38 = .ok (.if_icmp .ne 8, 3) := by decide +kernel
theorem dX12_expression_41 : decode cX12_expression 41 = .ok (.aload_n 0, 1) := by decide +kernel
theorem dX12_expression_42 : decode cX12_expression 42 = .ok (.iconst 2, 1) := by decide +kernel
theorem dX12_expression_43 : decode cX12_expression 43 = .ok (.invokevirtual 228, 3) := by decide +kernel
theorem dX12_expression_46 : decode cX12_expression 46 = .ok (.aload_n 0, 1) := by decide +kernel
theorem dX12_expression_47 : decode cX12_expression 47 = .ok (.dup, 1) := by decide +kernel
theorem dX12_expression_48 : decode cX12_expression 48 = .ok (.getfield 240, 3) := by decide +kernel
theorem dX12_expression_51 : decode cX12_expression 51 = .ok (.iconst 1, 1) := by decide +kernel
theorem dX12_expression_52 : decode cX12_expression 52 = .ok (.iadd, 1) := by decide +kernel
theorem dX12_expression_53 : decode cX12_expression 53 = .ok (.putfield 240, 3) := by decide +kernel
theorem dX12_expression_56 : decode cX12_expression 56 = .ok (.aload_n 0, 1) := by decide +kernel
theorem dX12_expression_57 : decode cX12_expression 57 = .ok (.invokevirtual 234, 3) := by decide +kernel
theorem dX12_expression_60 : decode cX12_expression 60 = .ok (.aload_n 0, 1) := by decide +kernel
theorem dX12_expression_61 : decode cX12_expression 61 = .ok (.getfield 110, 3) := by decide +kernel
theorem dX12_expression_64 : decode cX12_expression 64 = .ok (.aload_n 0, 1) := by decide +kernel
theorem dX12_expression_65 : decode cX12_expression 65 = .ok (.getfield 312, 3) := by decide +kernel
theorem dX12_expression_68 : decode cX12_expression 68 = .ok (.bipush 6, 2) := by decide +kernel
theorem dX12_expression_70 : decode cX12_expression 70 = .ok (.iastore, 1) := by decide +kernel
theorem dX12_expression_71 : decode cX12_expression 71 = .ok (.aload_n 0, 1) := by decide +kernel
theorem dX12_expression_72 : decode cX12_expression 72 = .ok (.dup, 1) := by decide +kernel
theorem dX12_expression_73 : decode cX12_expression 73 = .ok (.getfield 312, 3) := by decide +kernel
theorem dX12_expression_76 : decode cX12_expression 76 = .ok (.iconst 1, 1) := by decide +kernel
theorem dX12_expression_77 : decode cX12_expression 77 = .ok (.iadd, 1) := by decide +kernel
theorem dX12_expression_78 : decode cX12_expression 78 = .ok (.putfield 312, 3) := by decide +kernel
theorem dX12_expression_81 : decode cX12_expression 81 = .ok (.goto (-58), 3) := by decide +kernel
theorem dX12_expression_84 : decode cX12_expression 84 = .ok (.aload_n 0, 1) := by decide +kernel
theorem dX12_expression_85 : decode cX12_expression 85 = .ok (.invokevirtual 318, 3) := by decide +kernel
theorem dX12_expression_88 : decode cX12_expression 88 = .ok (.aload_n 0, 1) := by decide +kernel
theorem dX12_expression_89 : decode cX12_expression 89 = .ok (.getfield 213, 3) := by decide +kernel
theorem dX12_expression_92 : decode cX12_expression 92 = .ok (.ifCond .le 4, 3) := by decide +kernel
theorem dX12_expression_95 : decode cX12_expression 95 = .ok (.return_, 1) := by decide +kernel
theorem dX12_expression_96 : decode cX12_expression 96 = .ok (.aload_n 0, 1) := by decide +kernel
theorem dX12_expression_97 : decode cX12_expression 97 = .ok (.bipush 7, 2) := by decide +kernel
theorem dX12_expression_99 : decode cX12_expression 99 = .ok (.invokevirtual 231, 3) := by decide +kernel
theorem dX12_expression_102 : decode cX12_expression 102 = .ok (.ifCond .eq 43, 3) := by decide +kernel
theorem dX12_expression_105 : decode cX12_expression 105 = .ok (.aload_n 0, 1) := by decide +kernel
theorem dX12_expression_106 : decode cX12_expression 106 = .ok (.getfield 240, 3) := by decide +kernel
theorem dX12_expression_109 : decode cX12_expression 109 = .ok (.iload_n 1, 1) := by decide +kernel
theorem dX12_expression_110 : decode cX12_expression 110 = .ok (.if_icmp .le 35, 3) := by decide +kernel
theorem dX12_expression_113 : decode cX12_expression 113 = .ok (.aload_n 0, 1) := by decide +kernel
theorem dX12_expression_114 : decode cX12_expression 114 = .ok (.iconst 0, 1) := by decide +kernel
theorem dX12_expression_115 : decode cX12_expression 115 = .ok (.invokevirtual 321, 3) := by decide +kernel
theorem dX12_expression_118 : decode cX12_expression 118 = .ok (.aload_n 0, 1) := by decide +kernel
theorem dX12_expression_119 : decode cX12_expression 119 = .ok (.dup, 1) := by decide +kernel
theorem dX12_expression_120 : decode cX12_expression 120 = .ok (.getfield 312, 3) := by decide +kernel
theorem dX12_expression_123 : decode cX12_expression 123 = .ok (.iconst 1, 1) := by decide +kernel
theorem dX12_expression_124 : decode cX12_expression 124 = .ok (.isub, 1) := by decide +kernel
theorem dX12_expression_125 : decode cX12_expression 125 = .ok (.putfield 312, 3) := by decide +kernel
theorem dX12_expression_128 : decode cX12_expression 128 = .ok (.aload_n 0, 1) := by decide +kernel
theorem dX12_expression_129 : decode cX12_expression 129 = .ok (.dup, 1) := by decide +kernel
theorem dX12_expression_130 : decode cX12_expression 130 = .ok (.getfield 240, 3) := by decide +kernel
theorem dX12_expression_133 : decode cX12_expression 133 = .ok (.iconst 1, 1) := by decide +kernel
theorem dX12_expression_134 : decode cX12_expression 134 = .ok (.isub, 1) := by decide +kernel
theorem dX12_expression_135 : decode cX12_expression 135 = .ok (.putfield 240, 3) := by decide +kernel
theorem dX12_expression_138 : decode cX12_expression 138 = .ok (.aload_n 0, 1) := by decide +kernel
theorem dX12_expression_139 : decode cX12_expression 139 = .ok (.invokevirtual 234, 3) := by decide +kernel
theorem dX12_expression_142 : decode cX12_expression 142 = .ok (.goto (-46), 3) := by decide +kernel
theorem dX12_expression_145 : decode cX12_expression 145 = .ok (.aload_n 0, 1) := by decide +kernel
theorem dX12_expression_146 : decode cX12_expression 146 = .ok (.bipush 8, 2) := by decide +kernel
theorem dX12_expression_148 : decode cX12_expression 148 = .ok (.invokevirtual 231, 3) := by decide +kernel
theorem dX12_expression_151 : decode cX12_expression 151 = .ok (.ifCond .ne 30, 3) := by decide +kernel
theorem dX12_expression_154 : decode cX12_expression 154 = .ok (.aload_n 0, 1) := by decide +kernel
theorem dX12_expression_155 : decode cX12_expression 155 = .ok (.bipush 9, 2) := by decide +kernel
theorem dX12_expression_157 : decode cX12_expression 157 = .ok (.invokevirtual 231, 3) := by decide +kernel
theorem dX12_expression_160 : decode cX12_expression 160 = .ok (.ifCond .ne 21, 3) := by decide +kernel
theorem dX12_expression_163 : decode cX12_expression 163 = .ok (.aload_n 0, 1) := by decide +kernel
theorem dX12_expression_164 : decode cX12_expression 164 = .ok (.bipush 10, 2) := by decide +kernel
theorem dX12_expression_166 : decode cX12_expression 166 = .ok (.invokevirtual 231, 3) := by decide +kernel
theorem dX12_expression_169 : decode cX12_expression 169 = .ok (.ifCond .ne 12, 3) := by decide +kernel
theorem dX12_expression_172 : decode cX12_expression 172 = .ok (.aload_n 0, 1) := by decide +kernel
theorem dX12_expression_173 : decode cX12_expression 173 = .ok (.bipush 15, 2) := by decide +kernel
theorem dX12_expression_175 : decode cX12_expression 175 = .ok (.invokevirtual 231, 3) := by decide +kernel
theorem dX12_expression_178 : decode cX12_expression 178 = .ok (.ifCond .eq 7, 3) := by decide +kernel
theorem dX12_expression_181 : decode cX12_expression 181 = .ok (.iconst 1, 1) := by decide +kernel
theorem dX12_expression_182 : decode cX12_expression 182 = .ok (.goto 4, 3) := by decide +kernel
theorem dX12_expression_185 : decode cX12_expression 185 = .ok (.iconst 0, 1) := by decide +kernel
theorem dX12_expression_186 : decode cX12_expression 186 = .ok (.istore_n 2, 1) := by decide +kernel
theorem dX12_expression_187 : decode cX12_expression 187 = .ok (.iload_n 2, 1) := by decide +kernel
theorem dX12_expression_188 : decode cX12_expression 188 = .ok (.ifCond .ne 22, 3) := by decide +kernel
theorem dX12_expression_191 : decode cX12_expression 191 = .ok (.aload_n 0, 1) := by decide +kernel
theorem dX12_expression_192 : decode cX12_expression 192 = .ok (.getfield 240, 3) := by decide +kernel
theorem dX12_expression_195 : decode cX12_expression 195 = .ok (.iload_n 1, 1) := by decide +kernel
theorem dX12_expression_196 : decode cX12_expression 196 = .ok (.if_icmp .le 8, 3) := by decide +kernel
theorem dX12_expression_199 : decode cX12_expression 199 = .ok (.aload_n 0, 1) := by decide +kernel
theorem dX12_expression_200 : decode cX12_expression 200 = .ok (.iconst 1, 1) := by decide +kernel
theorem dX12_expression_201 : decode cX12_expression 201 = .ok (.invokevirtual 228, 3) := by decide +kernel
theorem dX12_expression_204 : decode cX12_expression 204 = .ok (.aload_n 0, 1) := by decide +kernel
theorem dX12_expression_205 : decode cX12_expression 205 = .ok (.iconst 0, 1) := by decide +kernel
theorem dX12_expression_206 : decode cX12_expression 206 = .ok (.invokevirtual 321, 3) := by decide +kernel
theorem dX12_expression_209 : decode cX12_expression 209 = .ok (.return_, 1) := by decide +kernel
theorem dX12_expression_210 : decode cX12_expression 210 = .ok (.aload_n 0, 1) := by decide +kernel
theorem dX12_expression_211 : decode cX12_expression 211 = .ok (.aload_n 0, 1) := by decide +kernel
theorem dX12_expression_212 : decode cX12_expression 212 = .ok (.bipush 10, 2) := by decide +kernel
theorem dX12_expression_214 : decode cX12_expression 214 = .ok (.invokevirtual 231, 3) := by decide +kernel
theorem dX12_expression_217 : decode cX12_expression 217 = .ok (.ifCond .ne 12, 3) := by decide +kernel
theorem dX12_expression_220 : decode cX12_expression 220 = .ok (.aload_n 0, 1) := by decide +kernel
theorem dX12_expression_221 : decode cX12_expression 221 = .ok (.bipush 15, 2) := by decide +kernel
theorem dX12_expression_223 : decode cX12_expression 223 = .ok (.invokevirtual 231, 3) := by decide +kernel
theorem dX12_expression_226 : decode cX12_expression 226 = .ok (.ifCond .eq 7, 3) := by decide +kernel
theorem dX12_expression_229 : decode cX12_expression 229 = .ok (.iconst 1, 1) := by decide +kernel
theorem dX12_expression_230 : decode cX12_expression 230 = .ok (.goto 4, 3) := by decide +kernel
theorem dX12_expression_233 : decode cX12_expression 233 = .ok (.iconst 0, 1) := by decide +kernel
theorem dX12_expression_234 : decode cX12_expression 234 = .ok (.invokevirtual 321, 3) := by decide +kernel
theorem dX12_expression_237 : decode cX12_expression 237 = .ok (.aload_n 0, 1) := by decide +kernel
theorem dX12_expression_238 : decode cX12_expression 238 = .ok (.getfield 110, 3) := by decide +kernel
theorem dX12_expression_241 : decode cX12_expression 241 = .ok (.aload_n 0, 1) := by decide +kernel
theorem dX12_expression_242 : decode cX12_expression 242 = .ok (.getfield 312, 3) := by decide +kernel
theorem dX12_expression_245 : decode cX12_expression 245 = .ok (.aload_n 0, 1) := by decide +kernel
theorem dX12_expression_246 : decode cX12_expression 246 = .ok (.getfield 20, 3) := by decide +kernel
theorem dX12_expression_249 : decode cX12_expression 249 = .ok (.aload_n 0, 1) := by decide +kernel
theorem dX12_expression_250 : decode cX12_expression 250 = .ok (.getfield 216, 3) := by decide +kernel
theorem dX12_expression_253 : decode cX12_expression 253 = .ok (.iaload, 1) := by decide +kernel
theorem dX12_expression_254 : decode cX12_expression 254 = .ok (.iastore, 1) := by decide +kernel
theorem dX12_expression_255 : decode cX12_expression 255 = .ok (.aload_n 0, 1) := by decide +kernel
theorem dX12_expression_256 : decode cX12_expression 256 = .ok (.dup, 1) := by decide +kernel
theorem dX12_expression_257 : decode cX12_expression 257 = .ok (.getfield 312, 3) := by decide +kernel
theorem dX12_expression_260 : decode cX12_expression 260 = .ok (.iconst 1, 1) := by decide +kernel
theorem dX12_expression_261 : decode cX12_expression 261 = .ok (.iadd, 1) := by decide +kernel
theorem dX12_expression_262 : decode cX12_expression 262 = .ok (.putfield 312, 3) := by decide +kernel
theorem dX12_expression_265 : decode cX12_expression 265 = .ok (.aload_n 0, 1) := by decide +kernel
theorem dX12_expression_266 : decode cX12_expression 266 = .ok (.invokevirtual 234, 3) := by decide +kernel
theorem dX12_expression_269 : decode cX12_expression 269 = .ok (.goto (-257), 3) := by decide +kernel
theorem dX12_expression_272 : decode cX12_expression 272 = .ok (.return_, 1) := by decide +kernel
theorem dX12_unit_0 : decode cX12_unit 0 = .ok (.aload_n 0, 1) := by decide +kernel
theorem dX12_unit_1 : decode cX12_unit 1 = .ok (.iconst 2, 1) := by decide +kernel
theorem dX12_unit_2 : decode cX12_unit 2 = .ok (.invokevirtual 231, 3) := by decide +kernel
theorem dX12_unit_5 : decode cX12_unit 5 = .ok (.ifCond .eq 24, 3) := by decide +kernel
theorem dX12_unit_8 : decode cX12_unit 8 = .ok (.aload_n 0, 1) := by decide +kernel
theorem dX12_unit_9 : decode cX12_unit 9 = .ok (.iconst 0, 1) := by decide +kernel
theorem dX12_unit_10 : decode cX12_unit 10 = .ok (.aload_n 0, 1) := by decide +kernel
theorem dX12_unit_11 : decode cX12_unit 11 = .ok (.getfield 27, 3) := by decide +kernel
theorem dX12_unit_14 : decode cX12_unit 14 = .ok (.aload_n 0, 1) := by decide +kernel
theorem dX12_unit_15 : decode cX12_unit 15 = .ok (.getfield 216, 3) := by decide +kernel
theorem dX12_unit_18 : decode cX12_unit 18 = .ok (.iaload, 1) := by decide +kernel
theorem dX12_unit_19 : decode cX12_unit 19 = .ok (.invokevirtual 315, 3) := by decide +kernel
theorem dX12_unit_22 : decode cX12_unit 22 = .ok (.aload_n 0, 1) := by decide +kernel
theorem dX12_unit_23 : decode cX12_unit 23 = .ok (.invokevirtual 234, 3) := by decide +kernel
theorem dX12_unit_26 : decode cX12_unit 26 = .ok (.goto 67, 3) := by decide +kernel
theorem dX12_unit_29 : decode cX12_unit 29 = .ok (.aload_n 0, 1) := by decide +kernel
theorem dX12_unit_30 : decode cX12_unit 30 = .ok (.getfield 213, 3) := by decide +kernel
theorem dX12_unit_33 : decode cX12_unit 33 = .ok (.ifCond .ne 55, 3) := by decide +kernel
theorem dX12_unit_36 : decode cX12_unit 36 = .ok (.aload_n 0, 1) := by decide +kernel
theorem dX12_unit_37 : decode cX12_unit 37 = .ok (.getfield 20, 3) := by decide +kernel
theorem dX12_unit_40 : decode cX12_unit 40 = .ok (.aload_n 0, 1) := by decide +kernel
theorem dX12_unit_41 : decode cX12_unit 41 = .ok (.getfield 216, 3) := by decide +kernel
theorem dX12_unit_44 : decode cX12_unit 44 = .ok (.iaload, 1) := by decide +kernel
theorem dX12_unit_45 : decode cX12_unit 45 = .ok (.bipush 31, 2) := by decide +kernel
theorem dX12_unit_47 : decode cX12_unit 47 = .ok (.if_icmp .lt 41, 3) := by decide +kernel
theorem dX12_unit_50 : decode cX12_unit 50 = .ok (.aload_n 0, 1) := by decide +kernel
theorem dX12_unit_51 : decode cX12_unit 51 = .ok (.getfield 20, 3) := by decide +kernel
theorem dX12_unit_54 : decode cX12_unit 54 = .ok (.aload_n 0, 1) := by decide +kernel
theorem dX12_unit_55 : decode cX12_unit 55 = .ok (.getfield 216, 3) := by decide +kernel
theorem dX12_unit_58 : decode cX12_unit 58 = .ok (.iaload, 1) := by decide +kernel
theorem dX12_unit_59 : decode cX12_unit 59 = .ok (.bipush 36, 2) := by decide +kernel
theorem dX12_unit_61 : decode cX12_unit 61 = .ok (.if_icmp .gt 27, 3) := by decide +kernel
theorem dX12_unit_64 : decode cX12_unit 64 = .ok (.aload_n 0, 1) := by decide +kernel
theorem dX12_unit_65 : decode cX12_unit 65 = .ok (.iconst 1, 1) := by decide +kernel
theorem dX12_unit_66 : decode cX12_unit 66 = .ok (.aload_n 0, 1) := by decide +kernel
theorem dX12_unit_67 : decode cX12_unit 67 = .ok (.getfield 20, 3) := by decide +kernel
theorem dX12_unit_70 : decode cX12_unit 70 = .ok (.aload_n 0, 1) := by decide +kernel
theorem dX12_unit_71 : decode cX12_unit 71 = .ok (.getfield 216, 3) := by decide +kernel
theorem dX12_unit_74 : decode cX12_unit 74 = .ok (.iaload, 1) := by decide +kernel
theorem dX12_unit_75 : decode cX12_unit 75 = .ok (.bipush 31, 2) := by decide +kernel
theorem dX12_unit_77 : decode cX12_unit 77 = .ok (.isub, 1) := by decide +kernel
theorem dX12_unit_78 : decode cX12_unit 78 = .ok (.invokevirtual 315, 3) := by decide +kernel
theorem dX12_unit_81 : decode cX12_unit 81 = .ok (.aload_n 0, 1) := by decide +kernel
theorem dX12_unit_82 : decode cX12_unit 82 = .ok (.invokevirtual 234, 3) := by decide +kernel
theorem dX12_unit_85 : decode cX12_unit 85 = .ok (.goto 8, 3) := by decide +kernel
theorem dX12_unit_88 : decode cX12_unit 88 = .ok (.aload_n 0, 1) := by decide +kernel
theorem dX12_unit_89 : decode cX12_unit 89 = .ok (.iconst 1, 1) := by decide +kernel
theorem dX12_unit_90 : decode cX12_unit 90 = .ok (.invokevirtual 228, 3) := by decide +kernel
theorem dX12_unit_93 : decode cX12_unit 93 = .ok (.return_, 1) := by decide +kernel
theorem dX12_termOf_0 : decode cX12_termOf 0 = .ok (.iconst 0, 1) := by decide +kernel
theorem dX12_termOf_1 : decode cX12_termOf 1 = .ok (.istore_n 3, 1) := by decide +kernel
theorem dX12_termOf_2 : decode cX12_termOf 2 = .ok (.iload_n 1, 1) := by decide +kernel
theorem dX12_termOf_3 : decode cX12_termOf 3 = .ok (.istore 4, 2) := by decide +kernel
theorem dX12_termOf_5 : decode cX12_termOf 5 = .ok (.iload 4, 2) := by decide +kernel
theorem dX12_termOf_7 : decode cX12_termOf 7 = .ok (.iload_n 2, 1) := by decide +kernel
theorem dX12_termOf_8 : decode cX12_termOf 8 = .ok (.if_icmp .ge 157, 3) := by decide +kernel
theorem dX12_termOf_11 : decode cX12_termOf 11 = .ok (.aload_n 0, 1) := by decide +kernel
theorem dX12_termOf_12 : decode cX12_termOf 12 = .ok (.getfield 104, 3) := by decide +kernel
theorem dX12_termOf_15 : decode cX12_termOf 15 = .ok (.iload 4, 2) := by decide +kernel
theorem dX12_termOf_17 : decode cX12_termOf 17 = .ok (.iaload, 1) := by decide +kernel
theorem dX12_termOf_18 : decode cX12_termOf 18 = .ok (.istore 5, 2) := by decide +kernel
theorem dX12_termOf_20 : decode cX12_termOf 20 = .ok (.iload 5, 2) := by decide +kernel
theorem dX12_termOf_22 : decode cX12_termOf 22 = .ok (.iconst 2, 1) := by decide +kernel
theorem dX12_termOf_23 : decode cX12_termOf 23 = .ok (.if_icmp .ge 42, 3) := by decide +kernel
theorem dX12_termOf_26 : decode cX12_termOf 26 = .ok (.aload_n 0, 1) := by decide +kernel
theorem dX12_termOf_27 : decode cX12_termOf 27 = .ok (.getfield 116, 3) := by decide +kernel
theorem dX12_termOf_30 : decode cX12_termOf 30 = .ok (.iload_n 3, 1) := by decide +kernel
theorem dX12_termOf_31 : decode cX12_termOf 31 = .ok (.iload 5, 2) := by decide +kernel
theorem dX12_termOf_33 : decode cX12_termOf 33 = .ok (.ifCond .ne 13, 3) := by decide +kernel
theorem dX12_termOf_36 : decode cX12_termOf 36 = .ok (.aload_n 0, 1) := by decide +kernel
theorem dX12_termOf_37 : decode cX12_termOf 37 = .ok (.getfield 107, 3) := by decide +kernel
theorem dX12_termOf_40 : decode cX12_termOf 40 = .ok (.iload 4, 2) := by decide +kernel
theorem dX12_termOf_42 : decode cX12_termOf 42 = .ok (.iaload, 1) := by decide +kernel
theorem dX12_termOf_43 : decode cX12_termOf 43 = .ok (.goto 15, 3) := by decide +kernel
theorem dX12_termOf_46 : decode cX12_termOf 46 = .ok (.aload_n 0, 1) := by decide +kernel
theorem dX12_termOf_47 : decode cX12_termOf 47 = .ok (.getfield 113, 3) := by decide +kernel
theorem dX12_termOf_50 : decode cX12_termOf 50 = .ok (.aload_n 0, 1) := by decide +kernel
theorem dX12_termOf_51 : decode cX12_termOf 51 = .ok (.getfield 107, 3) := by decide +kernel
theorem dX12_termOf_54 : decode cX12_termOf 54 = .ok (.iload 4, 2) := by decide +kernel
theorem dX12_termOf_56 : decode cX12_termOf 56 = .ok (.iaload, 1) := by decide +kernel
theorem dX12_termOf_57 : decode cX12_termOf 57 = .ok (.iaload, 1) := by decide +kernel
theorem dX12_termOf_58 : decode cX12_termOf 58 = .ok (.iastore, 1) := by decide +kernel
theorem dX12_termOf_59 : decode cX12_termOf 59 = .ok (.iinc 3 1, 3) := by decide +kernel
theorem dX12_termOf_62 : decode cX12_termOf 62 = .ok (.goto 97, 3) := by decide +kernel
theorem dX12_termOf_65 : decode cX12_termOf 65 = .ok (.iinc 3 (-1), 3) := by decide +kernel
theorem dX12_termOf_68 : decode cX12_termOf 68 = .ok (.aload_n 0, 1) := by decide +kernel
theorem dX12_termOf_69 : decode cX12_termOf 69 = .ok (.getfield 116, 3) := by decide +kernel
theorem dX12_termOf_72 : decode cX12_termOf 72 = .ok (.iload_n 3, 1) := by decide +kernel
theorem dX12_termOf_73 : decode cX12_termOf 73 = .ok (.iconst 1, 1) := by decide +kernel
theorem dX12_termOf_74 : decode cX12_termOf 74 = .ok (.isub, 1) := by decide +kernel
theorem dX12_termOf_75 : decode cX12_termOf 75 = .ok (.iaload, 1) := by decide +kernel
theorem dX12_termOf_76 : decode cX12_termOf 76 = .ok (.istore 6, 2) := by decide +kernel
theorem dX12_termOf_78 : decode cX12_termOf 78 = .ok (.aload_n 0, 1) := by decide +kernel
theorem dX12_termOf_79 : decode cX12_termOf 79 = .ok (.getfield 116, 3) := by decide +kernel
theorem dX12_termOf_82 : decode cX12_termOf 82 = .ok (.iload_n 3, 1) := by decide +kernel
theorem dX12_termOf_83 : decode cX12_termOf 83 = .ok (.iaload, 1) := by decide +kernel
theorem dX12_termOf_84 : decode cX12_termOf 84 = .ok (.istore 7, 2) := by decide +kernel
theorem dX12_termOf_86 : decode cX12_termOf 86 = .ok (.iload 5, 2) := by decide +kernel
theorem dX12_termOf_88 : decode cX12_termOf 88 = .ok (.iconst 5, 1) := by decide +kernel
theorem dX12_termOf_89 : decode cX12_termOf 89 = .ok (.if_icmp .ne 15, 3) := by decide +kernel
theorem dX12_termOf_92 : decode cX12_termOf 92 = .ok (.iload 7, 2) := by decide +kernel
theorem dX12_termOf_94 : decode cX12_termOf 94 = .ok (.ifCond .ne 10, 3) := by decide +kernel
theorem dX12_termOf_97 : decode cX12_termOf 97 = .ok (.aload_n 0, 1) := by decide +kernel
theorem dX12_termOf_98 : decode cX12_termOf 98 = .ok (.iconst 1, 1) := by decide +kernel
theorem dX12_termOf_99 : decode cX12_termOf 99 = .ok (.putfield 325, 3) := by decide +kernel
theorem dX12_termOf_102 : decode cX12_termOf 102 = .ok (.iconst 0, 1) := by decide +kernel
theorem dX12_termOf_103 : decode cX12_termOf 103 = .ok (.ireturn, 1) := by decide +kernel
theorem dX12_termOf_104 : decode cX12_termOf 104 = .ok (.aload_n 0, 1) := by decide +kernel
theorem dX12_termOf_105 : decode cX12_termOf 105 = .ok (.getfield 116, 3) := by decide +kernel
theorem dX12_termOf_108 : decode cX12_termOf 108 = .ok (.iload_n 3, 1) := by decide +kernel
theorem dX12_termOf_109 : decode cX12_termOf 109 = .ok (.iconst 1, 1) := by decide +kernel
theorem dX12_termOf_110 : decode cX12_termOf 110 = .ok (.isub, 1) := by decide +kernel
theorem dX12_termOf_111 : decode cX12_termOf 111 = .ok (.iload 5, 2) := by decide +kernel
theorem dX12_termOf_113 : decode cX12_termOf 113 = .ok (.iconst 2, 1) := by decide +kernel
theorem dX12_termOf_114 : decode cX12_termOf 114 = .ok (.if_icmp .ne 11, 3) := by decide +kernel
theorem dX12_termOf_117 : decode cX12_termOf 117 = .ok (.iload 6, 2) := by decide +kernel
theorem dX12_termOf_119 : decode cX12_termOf 119 = .ok (.iload 7, 2) := by decide +kernel
theorem dX12_termOf_121 : decode cX12_termOf 121 = .ok (.iadd, 1) := by decide +kernel
theorem dX12_termOf_122 : decode cX12_termOf 122 = .ok (.goto 36, 3) := by decide +kernel
theorem dX12_termOf_125 : decode cX12_termOf 125 = .ok (.iload 5, 2) := by decide +kernel
theorem dX12_termOf_127 : decode cX12_termOf 127 = .ok (.iconst 3, 1) := by decide +kernel
theorem dX12_termOf_128 : decode cX12_termOf 128 = .ok (.if_icmp .ne 11, 3) := by decide +kernel
theorem dX12_termOf_131 : decode cX12_termOf 131 = .ok (.iload 6, 2) := by decide +kernel
theorem dX12_termOf_133 : decode cX12_termOf 133 = .ok (.iload 7, 2) := by decide +kernel
theorem dX12_termOf_135 : decode cX12_termOf 135 = .ok (.isub, 1) := by decide +kernel
theorem dX12_termOf_136 : decode cX12_termOf 136 = .ok (.goto 22, 3) := by decide +kernel
theorem dX12_termOf_139 : decode cX12_termOf 139 = .ok (.iload 5, 2) := by decide +kernel
theorem dX12_termOf_141 : decode cX12_termOf 141 = .ok (.iconst 4, 1) := by decide +kernel
theorem dX12_termOf_142 : decode cX12_termOf 142 = .ok (.if_icmp .ne 11, 3) := by decide +kernel
theorem dX12_termOf_145 : decode cX12_termOf 145 = .ok (.iload 6, 2) := by decide +kernel
theorem dX12_termOf_147 : decode cX12_termOf 147 = .ok (.iload 7, 2) := by decide +kernel
theorem dX12_termOf_149 : decode cX12_termOf 149 = .ok (.imul, 1) := by decide +kernel
theorem dX12_termOf_150 : decode cX12_termOf 150 = .ok (.goto 8, 3) := by decide +kernel
theorem dX12_termOf_153 : decode cX12_termOf 153 = .ok (.iload 6, 2) := by decide +kernel
theorem dX12_termOf_155 : decode cX12_termOf 155 = .ok (.iload 7, 2) := by decide +kernel
theorem dX12_termOf_157 : decode cX12_termOf 157 = .ok (.idiv, 1) := by decide +kernel
theorem dX12_termOf_158 : decode cX12_termOf 158 = .ok (.iastore, 1) := by decide +kernel
theorem dX12_termOf_159 : decode cX12_termOf 159 = .ok (.iinc 4 1, 3) := by decide +kernel
theorem dX12_termOf_162 : decode cX12_termOf 162 = .ok (.goto (-157), 3) := by decide +kernel
theorem dX12_termOf_165 : decode cX12_termOf 165 = .ok (.aload_n 0, 1) := by decide +kernel
theorem dX12_termOf_166 : decode cX12_termOf 166 = .ok (.getfield 116, 3) := by decide +kernel
theorem dX12_termOf_169 : decode cX12_termOf 169 = .ok (.iconst 0, 1) := by decide +kernel
theorem dX12_termOf_170 : decode cX12_termOf 170 = .ok (.iaload, 1) := by decide +kernel
theorem dX12_termOf_171 : decode cX12_termOf 171 = .ok (.ireturn, 1) := by decide +kernel
theorem dX12_in_0 : decode cX12_in 0 = .ok (.lload_n 0, 1) := by decide +kernel
theorem dX12_in_1 : decode cX12_in 1 = .ok (.lload_n 2, 1) := by decide +kernel
theorem dX12_in_2 : decode cX12_in 2 = .ok (.lcmp, 1) := by decide +kernel
theorem dX12_in_3 : decode cX12_in 3 = .ok (.ifCond .lt 14, 3) := by decide +kernel
theorem dX12_in_6 : decode cX12_in 6 = .ok (.lload_n 0, 1) := by decide +kernel
theorem dX12_in_7 : decode cX12_in 7 = .ok (.lload 4, 2) := by decide +kernel
theorem dX12_in_9 : decode cX12_in 9 = .ok (.lcmp, 1) := by decide +kernel
theorem dX12_in_10 : decode cX12_in 10 = .ok (.ifCond .gt 7, 3) := by decide +kernel
theorem dX12_in_13 : decode cX12_in 13 = .ok (.iconst 1, 1) := by decide +kernel
theorem dX12_in_14 : decode cX12_in 14 = .ok (.goto 4, 3) := by decide +kernel
theorem dX12_in_17 : decode cX12_in 17 = .ok (.iconst 0, 1) := by decide +kernel
theorem dX12_in_18 : decode cX12_in 18 = .ok (.ireturn, 1) := by decide +kernel
theorem dX12_tellsBy_0 : decode cX12_tellsBy 0 = .ok (.aload_n 0, 1) := by decide +kernel
theorem dX12_tellsBy_1 : decode cX12_tellsBy 1 = .ok (.iconst 0, 1) := by decide +kernel
theorem dX12_tellsBy_2 : decode cX12_tellsBy 2 = .ok (.putfield 325, 3) := by decide +kernel
theorem dX12_tellsBy_5 : decode cX12_tellsBy 5 = .ok (.aload_n 0, 1) := by decide +kernel
theorem dX12_tellsBy_6 : decode cX12_tellsBy 6 = .ok (.getfield 82, 3) := by decide +kernel
theorem dX12_tellsBy_9 : decode cX12_tellsBy 9 = .ok (.iload_n 1, 1) := by decide +kernel
theorem dX12_tellsBy_10 : decode cX12_tellsBy 10 = .ok (.iaload, 1) := by decide +kernel
theorem dX12_tellsBy_11 : decode cX12_tellsBy 11 = .ok (.istore_n 2, 1) := by decide +kernel
theorem dX12_tellsBy_12 : decode cX12_tellsBy 12 = .ok (.iload_n 2, 1) := by decide +kernel
theorem dX12_tellsBy_13 : decode cX12_tellsBy 13 = .ok (.aload_n 0, 1) := by decide +kernel
theorem dX12_tellsBy_14 : decode cX12_tellsBy 14 = .ok (.getfield 85, 3) := by decide +kernel
theorem dX12_tellsBy_17 : decode cX12_tellsBy 17 = .ok (.iload_n 1, 1) := by decide +kernel
theorem dX12_tellsBy_18 : decode cX12_tellsBy 18 = .ok (.iaload, 1) := by decide +kernel
theorem dX12_tellsBy_19 : decode cX12_tellsBy 19 = .ok (.if_icmp .ge 123, 3) := by decide +kernel
theorem dX12_tellsBy_22 : decode cX12_tellsBy 22 = .ok (.aload_n 0, 1) := by decide +kernel
theorem dX12_tellsBy_23 : decode cX12_tellsBy 23 = .ok (.getfield 88, 3) := by decide +kernel
theorem dX12_tellsBy_26 : decode cX12_tellsBy 26 = .ok (.iload_n 2, 1) := by decide +kernel
theorem dX12_tellsBy_27 : decode cX12_tellsBy 27 = .ok (.baload, 1) := by decide +kernel
theorem dX12_tellsBy_28 : decode cX12_tellsBy 28 = .ok (.ifCond .eq 56, 3) := by decide +kernel
theorem dX12_tellsBy_31 : decode cX12_tellsBy 31 = .ok (.aload_n 0, 1) := by decide +kernel
theorem dX12_tellsBy_32 : decode cX12_tellsBy 32 = .ok (.aload_n 0, 1) := by decide +kernel
theorem dX12_tellsBy_33 : decode cX12_tellsBy 33 = .ok (.getfield 92, 3) := by decide +kernel
theorem dX12_tellsBy_36 : decode cX12_tellsBy 36 = .ok (.iload_n 2, 1) := by decide +kernel
theorem dX12_tellsBy_37 : decode cX12_tellsBy 37 = .ok (.iaload, 1) := by decide +kernel
theorem dX12_tellsBy_38 : decode cX12_tellsBy 38 = .ok (.aload_n 0, 1) := by decide +kernel
theorem dX12_tellsBy_39 : decode cX12_tellsBy 39 = .ok (.getfield 95, 3) := by decide +kernel
theorem dX12_tellsBy_42 : decode cX12_tellsBy 42 = .ok (.iload_n 2, 1) := by decide +kernel
theorem dX12_tellsBy_43 : decode cX12_tellsBy 43 = .ok (.iaload, 1) := by decide +kernel
theorem dX12_tellsBy_44 : decode cX12_tellsBy 44 = .ok (.invokevirtual 329, 3) := by decide +kernel
theorem dX12_tellsBy_47 : decode cX12_tellsBy 47 = .ok (.istore_n 3, 1) := by decide +kernel
theorem dX12_tellsBy_48 : decode cX12_tellsBy 48 = .ok (.aload_n 0, 1) := by decide +kernel
theorem dX12_tellsBy_49 : decode cX12_tellsBy 49 = .ok (.aload_n 0, 1) := by decide +kernel
theorem dX12_tellsBy_50 : decode cX12_tellsBy 50 = .ok (.getfield 95, 3) := by decide +kernel
theorem dX12_tellsBy_53 : decode cX12_tellsBy 53 = .ok (.iload_n 2, 1) := by decide +kernel
theorem dX12_tellsBy_54 : decode cX12_tellsBy 54 = .ok (.iaload, 1) := by decide +kernel
theorem dX12_tellsBy_55 : decode cX12_tellsBy 55 = .ok (.aload_n 0, 1) := by decide +kernel
theorem dX12_tellsBy_56 : decode cX12_tellsBy 56 = .ok (.getfield 98, 3) := by decide +kernel
theorem dX12_tellsBy_59 : decode cX12_tellsBy 59 = .ok (.iload_n 2, 1) := by decide +kernel
theorem dX12_tellsBy_60 : decode cX12_tellsBy 60 = .ok (.iaload, 1) := by decide +kernel
theorem dX12_tellsBy_61 : decode cX12_tellsBy 61 = .ok (.invokevirtual 329, 3) := by decide +kernel
theorem dX12_tellsBy_64 : decode cX12_tellsBy 64 = .ok (.istore 4, 2) := by decide +kernel
theorem dX12_tellsBy_66 : decode cX12_tellsBy 66 = .ok (.aload_n 0, 1) := by decide +kernel
theorem dX12_tellsBy_67 : decode cX12_tellsBy 67 = .ok (.getfield 325, 3) := by decide +kernel
theorem dX12_tellsBy_70 : decode cX12_tellsBy 70 = .ok (.ifCond .eq 5, 3) := by decide +kernel
theorem dX12_tellsBy_73 : decode cX12_tellsBy 73 = .ok (.iconst 0, 1) := by decide +kernel
theorem dX12_tellsBy_74 : decode cX12_tellsBy 74 = .ok (.ireturn, 1) := by decide +kernel
theorem dX12_tellsBy_75 : decode cX12_tellsBy 75 = .ok (.iload_n 3, 1) := by decide +kernel
theorem dX12_tellsBy_76 : decode cX12_tellsBy 76 = .ok (.iload 4, 2) := by decide +kernel
theorem dX12_tellsBy_78 : decode cX12_tellsBy 78 = .ok (.if_icmp .lt 6, 3) := by decide +kernel
theorem dX12_tellsBy_81 : decode cX12_tellsBy 81 = .ok (.goto 55, 3) := by decide +kernel
theorem dX12_tellsBy_84 : decode cX12_tellsBy 84 = .ok (.aload_n 0, 1) := by decide +kernel
theorem dX12_tellsBy_85 : decode cX12_tellsBy 85 = .ok (.aload_n 0, 1) := by decide +kernel
theorem dX12_tellsBy_86 : decode cX12_tellsBy 86 = .ok (.getfield 98, 3) := by decide +kernel
theorem dX12_tellsBy_89 : decode cX12_tellsBy 89 = .ok (.iload_n 2, 1) := by decide +kernel
theorem dX12_tellsBy_90 : decode cX12_tellsBy 90 = .ok (.iaload, 1) := by decide +kernel
theorem dX12_tellsBy_91 : decode cX12_tellsBy 91 = .ok (.aload_n 0, 1) := by decide +kernel
theorem dX12_tellsBy_92 : decode cX12_tellsBy 92 = .ok (.getfield 101, 3) := by decide +kernel
theorem dX12_tellsBy_95 : decode cX12_tellsBy 95 = .ok (.iload_n 2, 1) := by decide +kernel
theorem dX12_tellsBy_96 : decode cX12_tellsBy 96 = .ok (.iaload, 1) := by decide +kernel
theorem dX12_tellsBy_97 : decode cX12_tellsBy 97 = .ok (.invokevirtual 329, 3) := by decide +kernel
theorem dX12_tellsBy_100 : decode cX12_tellsBy 100 = .ok (.istore_n 3, 1) := by decide +kernel
theorem dX12_tellsBy_101 : decode cX12_tellsBy 101 = .ok (.aload_n 0, 1) := by decide +kernel
theorem dX12_tellsBy_102 : decode cX12_tellsBy 102 = .ok (.getfield 325, 3) := by decide +kernel
theorem dX12_tellsBy_105 : decode cX12_tellsBy 105 = .ok (.ifCond .eq 7, 3) := by decide +kernel
theorem dX12_tellsBy_108 : decode cX12_tellsBy 108 = .ok (.iconst 0, 1) := by decide +kernel
theorem dX12_tellsBy_109 : decode cX12_tellsBy 109 = .ok (.goto 26, 3) := by decide +kernel
theorem dX12_tellsBy_112 : decode cX12_tellsBy 112 = .ok (.iload_n 3, 1) := by decide +kernel
theorem dX12_tellsBy_113 : decode cX12_tellsBy 113 = .ok (.bipush (-99), 2) := by decide +kernel
theorem dX12_tellsBy_115 : decode cX12_tellsBy 115 = .ok (.if_icmp .ge 8, 3) := by decide +kernel
theorem dX12_tellsBy_118 : decode cX12_tellsBy 118 = .ok (.bipush (-99), 2) := by decide +kernel
theorem dX12_tellsBy_120 : decode cX12_tellsBy 120 = .ok (.goto 15, 3) := by decide +kernel
theorem dX12_tellsBy_123 : decode cX12_tellsBy 123 = .ok (.iload_n 3, 1) := by decide +kernel
theorem dX12_tellsBy_124 : decode cX12_tellsBy 124 = .ok (.bipush 99, 2) := by decide +kernel
theorem dX12_tellsBy_126 : decode cX12_tellsBy 126 = .ok (.if_icmp .le 8, 3) := by decide +kernel
theorem dX12_tellsBy_129 : decode cX12_tellsBy 129 = .ok (.bipush 99, 2) := by decide +kernel
theorem dX12_tellsBy_131 : decode cX12_tellsBy 131 = .ok (.goto 4, 3) := by decide +kernel
theorem dX12_tellsBy_134 : decode cX12_tellsBy 134 = .ok (.iload_n 3, 1) := by decide +kernel
theorem dX12_tellsBy_135 : decode cX12_tellsBy 135 = .ok (.ireturn, 1) := by decide +kernel
theorem dX12_tellsBy_136 : decode cX12_tellsBy 136 = .ok (.iinc 2 1, 3) := by decide +kernel
theorem dX12_tellsBy_139 : decode cX12_tellsBy 139 = .ok (.goto (-127), 3) := by decide +kernel
theorem dX12_tellsBy_142 : decode cX12_tellsBy 142 = .ok (.iconst 0, 1) := by decide +kernel
theorem dX12_tellsBy_143 : decode cX12_tellsBy 143 = .ok (.ireturn, 1) := by decide +kernel
theorem dX12_isRow_0 : decode cX12_isRow 0 = .ok (.iload_n 1, 1) := by decide +kernel
theorem dX12_isRow_1 : decode cX12_isRow 1 = .ok (.i2l, 1) := by decide +kernel
theorem dX12_isRow_2 : decode cX12_isRow 2 = .ok (.lconst 0, 1) := by decide +kernel
theorem dX12_isRow_3 : decode cX12_isRow 3 = .ok (.aload_n 0, 1) := by decide +kernel
theorem dX12_isRow_4 : decode cX12_isRow 4 = .ok (.getfield 43, 3) := by decide +kernel
theorem dX12_isRow_7 : decode cX12_isRow 7 = .ok (.aload_n 0, 1) := by decide +kernel
theorem dX12_isRow_8 : decode cX12_isRow 8 = .ok (.getfield 243, 3) := by decide +kernel
theorem dX12_isRow_11 : decode cX12_isRow 11 = .ok (.iaload, 1) := by decide +kernel
theorem dX12_isRow_12 : decode cX12_isRow 12 = .ok (.iconst 1, 1) := by decide +kernel
theorem dX12_isRow_13 : decode cX12_isRow 13 = .ok (.isub, 1) := by decide +kernel
theorem dX12_isRow_14 : decode cX12_isRow 14 = .ok (.i2l, 1) := by decide +kernel
theorem dX12_isRow_15 : decode cX12_isRow 15 = .ok (.invokestatic 332, 3) := by decide +kernel
theorem dX12_isRow_18 : decode cX12_isRow 18 = .ok (.ireturn, 1) := by decide +kernel
theorem dX12_longAt_0 : decode cX12_longAt 0 = .ok (.aload_n 0, 1) := by decide +kernel
theorem dX12_longAt_1 : decode cX12_longAt 1 = .ok (.getfield 46, 3) := by decide +kernel
theorem dX12_longAt_4 : decode cX12_longAt 4 = .ok (.bipush 6, 2) := by decide +kernel
theorem dX12_longAt_6 : decode cX12_longAt 6 = .ok (.aload_n 0, 1) := by decide +kernel
theorem dX12_longAt_7 : decode cX12_longAt 7 = .ok (.getfield 243, 3) := by decide +kernel
theorem dX12_longAt_10 : decode cX12_longAt 10 = .ok (.imul, 1) := by decide +kernel
theorem dX12_longAt_11 : decode cX12_longAt 11 = .ok (.iload_n 1, 1) := by decide +kernel
theorem dX12_longAt_12 : decode cX12_longAt 12 = .ok (.iadd, 1) := by decide +kernel
theorem dX12_longAt_13 : decode cX12_longAt 13 = .ok (.iaload, 1) := by decide +kernel
theorem dX12_longAt_14 : decode cX12_longAt 14 = .ok (.ireturn, 1) := by decide +kernel
theorem dX12_at_0 : decode cX12_at 0 = .ok (.aload_n 0, 1) := by decide +kernel
theorem dX12_at_1 : decode cX12_at 1 = .ok (.getfield 49, 3) := by decide +kernel
theorem dX12_at_4 : decode cX12_at 4 = .ok (.bipush 36, 2) := by decide +kernel
theorem dX12_at_6 : decode cX12_at 6 = .ok (.aload_n 0, 1) := by decide +kernel
theorem dX12_at_7 : decode cX12_at 7 = .ok (.getfield 243, 3) := by decide +kernel
theorem dX12_at_10 : decode cX12_at 10 = .ok (.imul, 1) := by decide +kernel
theorem dX12_at_11 : decode cX12_at 11 = .ok (.bipush 6, 2) := by decide +kernel
theorem dX12_at_13 : decode cX12_at 13 = .ok (.iload_n 1, 1) := by decide +kernel
theorem dX12_at_14 : decode cX12_at 14 = .ok (.imul, 1) := by decide +kernel
theorem dX12_at_15 : decode cX12_at 15 = .ok (.iadd, 1) := by decide +kernel
theorem dX12_at_16 : decode cX12_at 16 = .ok (.iload_n 2, 1) := by decide +kernel
theorem dX12_at_17 : decode cX12_at 17 = .ok (.iadd, 1) := by decide +kernel
theorem dX12_at_18 : decode cX12_at 18 = .ok (.iaload, 1) := by decide +kernel
theorem dX12_at_19 : decode cX12_at 19 = .ok (.ireturn, 1) := by decide +kernel
theorem dX12_row_0 : decode cX12_row 0 = .ok (.aload_n 0, 1) := by decide +kernel
theorem dX12_row_1 : decode cX12_row 1 = .ok (.iload_n 1, 1) := by decide +kernel
theorem dX12_row_2 : decode cX12_row 2 = .ok (.invokevirtual 336, 3) := by decide +kernel
theorem dX12_row_5 : decode cX12_row 5 = .ok (.ifCond .ne 7, 3) := by decide +kernel
theorem dX12_row_8 : decode cX12_row 8 = .ok (.sipush (-1000), 3) := by decide +kernel
theorem dX12_row_11 : decode cX12_row 11 = .ok (.ireturn, 1) := by decide +kernel
theorem dX12_row_12 : decode cX12_row 12 = .ok (.iload_n 2, 1) := by decide +kernel
theorem dX12_row_13 : decode cX12_row 13 = .ok (.iconst (-1), 1) := by decide +kernel
theorem dX12_row_14 : decode cX12_row 14 = .ok (.if_icmp .ne 9, 3) := by decide +kernel
theorem dX12_row_17 : decode cX12_row 17 = .ok (.aload_n 0, 1) := by decide +kernel
theorem dX12_row_18 : decode cX12_row 18 = .ok (.iload_n 1, 1) := by decide +kernel
theorem dX12_row_19 : decode cX12_row 19 = .ok (.invokevirtual 339, 3) := by decide +kernel
theorem dX12_row_22 : decode cX12_row 22 = .ok (.ireturn, 1) := by decide +kernel
theorem dX12_row_23 : decode cX12_row 23 = .ok (.iload_n 2, 1) := by decide +kernel
theorem dX12_row_24 : decode cX12_row 24 = .ok (.i2l, 1) := by decide +kernel
theorem dX12_row_25 : decode cX12_row 25 = .ok (.lconst 0, 1) := by decide +kernel
theorem dX12_row_26 : decode cX12_row 26 = .ok (.aload_n 0, 1) := by decide +kernel
theorem dX12_row_27 : decode cX12_row 27 = .ok (.iload_n 1, 1) := by decide +kernel
theorem dX12_row_28 : decode cX12_row 28 = .ok (.invokevirtual 339, 3) := by decide +kernel
theorem dX12_row_31 : decode cX12_row 31 = .ok (.iconst 1, 1) := by decide +kernel
theorem dX12_row_32 : decode cX12_row 32 = .ok (.isub, 1) := by decide +kernel
theorem dX12_row_33 : decode cX12_row 33 = .ok (.i2l, 1) := by decide +kernel
theorem dX12_row_34 : decode cX12_row 34 = .ok (.invokestatic 332, 3) := by decide +kernel
theorem dX12_row_37 : decode cX12_row 37 = .ok (.ifCond .eq 12, 3) := by decide +kernel
theorem dX12_row_40 : decode cX12_row 40 = .ok (.aload_n 0, 1) := by decide +kernel
theorem dX12_row_41 : decode cX12_row 41 = .ok (.iload_n 1, 1) := by decide +kernel
theorem dX12_row_42 : decode cX12_row 42 = .ok (.iload_n 2, 1) := by decide +kernel
theorem dX12_row_43 : decode cX12_row 43 = .ok (.invokevirtual 342, 3) := by decide +kernel
theorem dX12_row_46 : decode cX12_row 46 = .ok (.goto 6, 3) := by decide +kernel
theorem dX12_row_49 : decode cX12_row 49 = .ok (.sipush (-1000), 3) := by decide +kernel
theorem dX12_row_52 : decode cX12_row 52 = .ok (.ireturn, 1) := by decide +kernel
theorem dX12_comesBy_0 : decode cX12_comesBy 0 = .ok (.lconst 0, 1) := by decide +kernel
theorem dX12_comesBy_1 : decode cX12_comesBy 1 = .ok (.lstore 4, 2) := by decide +kernel
theorem dX12_comesBy_3 : decode cX12_comesBy 3 = .ok (.aload_n 0, 1) := by decide +kernel
theorem dX12_comesBy_4 : decode cX12_comesBy 4 = .ok (.iload_n 1, 1) := by decide +kernel
theorem dX12_comesBy_5 : decode cX12_comesBy 5 = .ok (.invokevirtual 339, 3) := by decide +kernel
theorem dX12_comesBy_8 : decode cX12_comesBy 8 = .ok (.iconst 1, 1) := by decide +kernel
theorem dX12_comesBy_9 : decode cX12_comesBy 9 = .ok (.isub, 1) := by decide +kernel
theorem dX12_comesBy_10 : decode cX12_comesBy 10 = .ok (.istore 6, 2) := by decide +kernel
theorem dX12_comesBy_12 : decode cX12_comesBy 12 = .ok (.iload 6, 2) := by decide +kernel
theorem dX12_comesBy_14 : decode cX12_comesBy 14 = .ok (.ifCond .lt 24, 3) := by decide +kernel
theorem dX12_comesBy_17 : decode cX12_comesBy 17 = .ok (.lload 4, 2) := by decide +kernel
theorem dX12_comesBy_19 : decode cX12_comesBy 19 = .ok (.lload_n 2, 1) := by decide +kernel
theorem dX12_comesBy_20 : decode cX12_comesBy 20 = .ok (.lmul, 1) := by decide +kernel
theorem dX12_comesBy_21 : decode cX12_comesBy 21 = .ok (.aload_n 0, 1) := by decide +kernel
theorem dX12_comesBy_22 : decode cX12_comesBy 22 = .ok (.iload_n 1, 1) := by decide +kernel
theorem dX12_comesBy_23 : decode cX12_comesBy 23 = .ok (.iload 6, 2) := by decide +kernel
theorem dX12_comesBy_25 : decode cX12_comesBy 25 = .ok (.invokevirtual 342, 3) := by decide +kernel
theorem dX12_comesBy_28 : decode cX12_comesBy 28 = .ok (.i2l, 1) := by decide +kernel
theorem dX12_comesBy_29 : decode cX12_comesBy 29 = .ok (.ladd, 1) := by decide +kernel
theorem dX12_comesBy_30 : decode cX12_comesBy 30 = .ok (.lstore 4, 2) := by decide +kernel
theorem dX12_comesBy_32 : decode cX12_comesBy 32 = .ok (.iinc 6 (-1), 3) := by decide +kernel
theorem dX12_comesBy_35 : decode cX12_comesBy 35 = .ok (.goto (-23), 3) := by decide +kernel
theorem dX12_comesBy_38 : decode cX12_comesBy 38 = .ok (.lload 4, 2) := by decide +kernel
theorem dX12_comesBy_40 : decode cX12_comesBy 40 = .ok (.lreturn, 1) := by decide +kernel
theorem dX12_comes_0 : decode cX12_comes 0 = .ok (.aload_n 0, 1) := by decide +kernel
theorem dX12_comes_1 : decode cX12_comes 1 = .ok (.iload_n 1, 1) := by decide +kernel
theorem dX12_comes_2 : decode cX12_comes 2 = .ok (.invokevirtual 336, 3) := by decide +kernel
theorem dX12_comes_5 : decode cX12_comes 5 = .ok (.ifCond .eq 27, 3) := by decide +kernel
theorem dX12_comes_8 : decode cX12_comes 8 = .ok (.iload_n 2, 1) := by decide +kernel
theorem dX12_comes_9 : decode cX12_comes 9 = .ok (.i2l, 1) := by decide +kernel
theorem dX12_comes_10 : decode cX12_comes 10 = .ok (.ldc2_w 345, 3) := by decide +kernel
theorem dX12_comes_13 : decode cX12_comes 13 = .ok (.ldc2_w 347, 3) := by decide +kernel
theorem dX12_comes_16 : decode cX12_comes 16 = .ok (.invokestatic 332, 3) := by decide +kernel
theorem dX12_comes_19 : decode cX12_comes 19 = .ok (.ifCond .eq 13, 3) := by decide +kernel
theorem dX12_comes_22 : decode cX12_comes 22 = .ok (.aload_n 0, 1) := by decide +kernel
theorem dX12_comes_23 : decode cX12_comes 23 = .ok (.iload_n 1, 1) := by decide +kernel
theorem dX12_comes_24 : decode cX12_comes 24 = .ok (.iload_n 2, 1) := by decide +kernel
theorem dX12_comes_25 : decode cX12_comes 25 = .ok (.i2l, 1) := by decide +kernel
theorem dX12_comes_26 : decode cX12_comes 26 = .ok (.invokevirtual 349, 3) := by decide +kernel
theorem dX12_comes_29 : decode cX12_comes 29 = .ok (.goto 6, 3) := by decide +kernel
theorem dX12_comes_32 : decode cX12_comes 32 = .ok (.ldc2_w 353, 3) := by decide +kernel
theorem dX12_comes_35 : decode cX12_comes 35 = .ok (.lreturn, 1) := by decide +kernel
theorem dX12_isBelow_0 : decode cX12_isBelow 0 = .ok (.iconst 0, 1) := by decide +kernel
theorem dX12_isBelow_1 : decode cX12_isBelow 1 = .ok (.istore_n 2, 1) := by decide +kernel
theorem dX12_isBelow_2 : decode cX12_isBelow 2 = .ok (.iload_n 2, 1) := by decide +kernel
theorem dX12_isBelow_3 : decode cX12_isBelow 3 = .ok (.aload_n 0, 1) := by decide +kernel
theorem dX12_isBelow_4 : decode cX12_isBelow 4 = .ok (.iload_n 1, 1) := by decide +kernel
theorem dX12_isBelow_5 : decode cX12_isBelow 5 = .ok (.invokevirtual 339, 3) := by decide +kernel
theorem dX12_isBelow_8 : decode cX12_isBelow 8 = .ok (.if_icmp .ge 20, 3) := by decide +kernel
theorem dX12_isBelow_11 : decode cX12_isBelow 11 = .ok (.aload_n 0, 1) := by decide +kernel
theorem dX12_isBelow_12 : decode cX12_isBelow 12 = .ok (.iload_n 1, 1) := by decide +kernel
theorem dX12_isBelow_13 : decode cX12_isBelow 13 = .ok (.iload_n 2, 1) := by decide +kernel
theorem dX12_isBelow_14 : decode cX12_isBelow 14 = .ok (.invokevirtual 342, 3) := by decide +kernel
theorem dX12_isBelow_17 : decode cX12_isBelow 17 = .ok (.ifCond .ge 5, 3) := by decide +kernel
theorem dX12_isBelow_20 : decode cX12_isBelow 20 = .ok (.iconst 1, 1) := by decide +kernel
theorem dX12_isBelow_21 : decode cX12_isBelow 21 = .ok (.ireturn, 1) := by decide +kernel
theorem dX12_isBelow_22 : decode cX12_isBelow 22 = .ok (.iinc 2 1, 3) := by decide +kernel
theorem dX12_isBelow_25 : decode cX12_isBelow 25 = .ok (.goto (-23), 3) := by decide +kernel
theorem dX12_isBelow_28 : decode cX12_isBelow 28 = .ok (.iconst 0, 1) := by decide +kernel
theorem dX12_isBelow_29 : decode cX12_isBelow 29 = .ok (.ireturn, 1) := by decide +kernel
theorem dX12_figures_0 : decode cX12_figures 0 = .ok (.lload_n 0, 1) := by decide +kernel
theorem dX12_figures_1 : decode cX12_figures 1 = .ok (.lconst 0, 1) := by decide +kernel
theorem dX12_figures_2 : decode cX12_figures 2 = .ok (.lcmp, 1) := by decide +kernel
theorem dX12_figures_3 : decode cX12_figures 3 = .ok (.ifCond .ge 7, 3) := by decide +kernel
theorem dX12_figures_6 : decode cX12_figures 6 = .ok (.iconst 2, 1) := by decide +kernel
theorem dX12_figures_7 : decode cX12_figures 7 = .ok (.goto 4, 3) := by decide +kernel
theorem dX12_figures_10 : decode cX12_figures 10 = .ok (.iconst 1, 1) := by decide +kernel
theorem dX12_figures_11 : decode cX12_figures 11 = .ok (.istore_n 2, 1) := by decide +kernel
theorem dX12_figures_12 : decode cX12_figures 12 = .ok (.lload_n 0, 1) := by decide +kernel
theorem dX12_figures_13 : decode cX12_figures 13 = .ok (.ldc2_w 355, 3) := by decide +kernel
theorem dX12_figures_16 : decode cX12_figures 16 = .ok (.ldiv, 1) := by decide +kernel
theorem dX12_figures_17 : decode cX12_figures 17 = .ok (.lstore_n 3, 1) := by decide +kernel
theorem dX12_figures_18 : decode cX12_figures 18 = .ok (.lload_n 3, 1) := by decide +kernel
theorem dX12_figures_19 : decode cX12_figures 19 = .ok (.lconst 0, 1) := by decide +kernel
theorem dX12_figures_20 : decode cX12_figures 20 = .ok (.lcmp, 1) := by decide +kernel
theorem dX12_figures_21 : decode cX12_figures 21 = .ok (.ifCond .eq 15, 3) := by decide +kernel
theorem dX12_figures_24 : decode cX12_figures 24 = .ok (.iinc 2 1, 3) := by decide +kernel
theorem dX12_figures_27 : decode cX12_figures 27 = .ok (.lload_n 3, 1) := by decide +kernel
theorem dX12_figures_28 : decode cX12_figures 28 = .ok (.ldc2_w 355, 3) := by decide +kernel
theorem dX12_figures_31 : decode cX12_figures 31 = .ok (.ldiv, 1) := by decide +kernel
theorem dX12_figures_32 : decode cX12_figures 32 = .ok (.lstore_n 3, 1) := by decide +kernel
theorem dX12_figures_33 : decode cX12_figures 33 = .ok (.goto (-15), 3) := by decide +kernel
theorem dX12_figures_36 : decode cX12_figures 36 = .ok (.iload_n 2, 1) := by decide +kernel
theorem dX12_figures_37 : decode cX12_figures 37 = .ok (.ireturn, 1) := by decide +kernel
theorem dX12_two_0 : decode cX12_two 0 = .ok (.aload_n 0, 1) := by decide +kernel
theorem dX12_two_1 : decode cX12_two 1 = .ok (.iload_n 1, 1) := by decide +kernel
theorem dX12_two_2 : decode cX12_two 2 = .ok (.invokevirtual 336, 3) := by decide +kernel
theorem dX12_two_5 : decode cX12_two 5 = .ok (.ifCond .eq 15, 3) := by decide +kernel
theorem dX12_two_8 : decode cX12_two 8 = .ok (.iload_n 2, 1) := by decide +kernel
theorem dX12_two_9 : decode cX12_two 9 = .ok (.i2l, 1) := by decide +kernel
theorem dX12_two_10 : decode cX12_two 10 = .ok (.lconst 0, 1) := by decide +kernel
theorem dX12_two_11 : decode cX12_two 11 = .ok (.ldc2_w 357, 3) := by decide +kernel
theorem dX12_two_14 : decode cX12_two 14 = .ok (.invokestatic 332, 3) := by decide +kernel
theorem dX12_two_17 : decode cX12_two 17 = .ok (.ifCond .ne 7, 3) := by decide +kernel
theorem dX12_two_20 : decode cX12_two 20 = .ok (.ldc2_w 359, 3) := by decide +kernel
theorem dX12_two_23 : decode cX12_two 23 = .ok (.lreturn, 1) := by decide +kernel
theorem dX12_two_24 : decode cX12_two 24 = .ok (.aload_n 0, 1) := by decide +kernel
theorem dX12_two_25 : decode cX12_two 25 = .ok (.iload_n 1, 1) := by decide +kernel
theorem dX12_two_26 : decode cX12_two 26 = .ok (.invokevirtual 361, 3) := by decide +kernel
theorem dX12_two_29 : decode cX12_two 29 = .ok (.ifCond .eq 7, 3) := by decide +kernel
theorem dX12_two_32 : decode cX12_two 32 = .ok (.ldc2_w 364, 3) := by decide +kernel
theorem dX12_two_35 : decode cX12_two 35 = .ok (.lreturn, 1) := by decide +kernel
theorem dX12_two_36 : decode cX12_two 36 = .ok (.aload_n 0, 1) := by decide +kernel
theorem dX12_two_37 : decode cX12_two 37 = .ok (.iload_n 1, 1) := by decide +kernel
theorem dX12_two_38 : decode cX12_two 38 = .ok (.lconst 1, 1) := by decide +kernel
theorem dX12_two_39 : decode cX12_two 39 = .ok (.invokevirtual 349, 3) := by decide +kernel
theorem dX12_two_42 : decode cX12_two 42 = .ok (.lstore_n 3, 1) := by decide +kernel
theorem dX12_two_43 : decode cX12_two 43 = .ok (.iload_n 2, 1) := by decide +kernel
theorem dX12_two_44 : decode cX12_two 44 = .ok (.tableswitch 43 0 2 #[28, 30, 34], 28) := by decide +kernel
theorem dX12_two_72 : decode cX12_two 72 = .ok (.lload_n 3, 1) := by decide +kernel
theorem dX12_two_73 : decode cX12_two 73 = .ok (.lreturn, 1) := by decide +kernel
theorem dX12_two_74 : decode cX12_two 74 = .ok (.lload_n 3, 1) := by decide +kernel
theorem dX12_two_75 : decode cX12_two 75 = .ok (.lconst 1, 1) := by decide +kernel
theorem dX12_two_76 : decode cX12_two 76 = .ok (.ladd, 1) := by decide +kernel
theorem dX12_two_77 : decode cX12_two 77 = .ok (.lreturn, 1) := by decide +kernel
theorem dX12_two_78 : decode cX12_two 78 = .ok (.aload_n 0, 1) := by decide +kernel
theorem dX12_two_79 : decode cX12_two 79 = .ok (.iload_n 1, 1) := by decide +kernel
theorem dX12_two_80 : decode cX12_two 80 = .ok (.lload_n 3, 1) := by decide +kernel
theorem dX12_two_81 : decode cX12_two 81 = .ok (.lconst 1, 1) := by decide +kernel
theorem dX12_two_82 : decode cX12_two 82 = .ok (.ladd, 1) := by decide +kernel
theorem dX12_two_83 : decode cX12_two 83 = .ok (.invokevirtual 349, 3) := by decide +kernel
theorem dX12_two_86 : decode cX12_two 86 = .ok (.lreturn, 1) := by decide +kernel
theorem dX12_two_87 : decode cX12_two 87 = .ok (.lconst 1, 1) := by decide +kernel
theorem dX12_two_88 : decode cX12_two 88 = .ok (.lload_n 3, 1) := by decide +kernel
theorem dX12_two_89 : decode cX12_two 89 = .ok (.lconst 1, 1) := by decide +kernel
theorem dX12_two_90 : decode cX12_two 90 = .ok (.ladd, 1) := by decide +kernel
theorem dX12_two_91 : decode cX12_two 91 = .ok (.invokestatic 366, 3) := by decide +kernel
theorem dX12_two_94 : decode cX12_two 94 = .ok (.i2l, 1) := by decide +kernel
theorem dX12_two_95 : decode cX12_two 95 = .ok (.ladd, 1) := by decide +kernel
theorem dX12_two_96 : decode cX12_two 96 = .ok (.lreturn, 1) := by decide +kernel
theorem dX12_figure_0 : decode cX12_figure 0 = .ok (.lload_n 1, 1) := by decide +kernel
theorem dX12_figure_1 : decode cX12_figure 1 = .ok (.lconst 0, 1) := by decide +kernel
theorem dX12_figure_2 : decode cX12_figure 2 = .ok (.ldc2_w 370, 3) := by decide +kernel
theorem dX12_figure_5 : decode cX12_figure 5 = .ok (.invokestatic 332, 3) := by decide +kernel
theorem dX12_figure_8 : decode cX12_figure 8 = .ok (.ifCond .eq 30, 3) := by decide +kernel
theorem dX12_figure_11 : decode cX12_figure 11 = .ok (.iload_n 3, 1) := by decide +kernel
theorem dX12_figure_12 : decode cX12_figure 12 = .ok (.i2l, 1) := by decide +kernel
theorem dX12_figure_13 : decode cX12_figure 13 = .ok (.ldc2_w 372, 3) := by decide +kernel
theorem dX12_figure_16 : decode cX12_figure 16 = .ok (.ldc2_w 374, 3) := by decide +kernel
theorem dX12_figure_19 : decode cX12_figure 19 = .ok (.invokestatic 332, 3) := by decide +kernel
theorem dX12_figure_22 : decode cX12_figure 22 = .ok (.ifCond .eq 16, 3) := by decide +kernel
theorem dX12_figure_25 : decode cX12_figure 25 = .ok (.iload 4, 2) := by decide +kernel
theorem dX12_figure_27 : decode cX12_figure 27 = .ok (.i2l, 1) := by decide +kernel
theorem dX12_figure_28 : decode cX12_figure 28 = .ok (.lconst 0, 1) := by decide +kernel
theorem dX12_figure_29 : decode cX12_figure 29 = .ok (.ldc2_w 376, 3) := by decide +kernel
theorem dX12_figure_32 : decode cX12_figure 32 = .ok (.invokestatic 332, 3) := by decide +kernel
theorem dX12_figure_35 : decode cX12_figure 35 = .ok (.ifCond .ne 5, 3) := by decide +kernel
theorem dX12_figure_38 : decode cX12_figure 38 = .ok (.iconst (-1), 1) := by decide +kernel
theorem dX12_figure_39 : decode cX12_figure 39 = .ok (.ireturn, 1) := by decide +kernel
theorem dX12_figure_40 : decode cX12_figure 40 = .ok (.iconst 0, 1) := by decide +kernel
theorem dX12_figure_41 : decode cX12_figure 41 = .ok (.istore 5, 2) := by decide +kernel
theorem dX12_figure_43 : decode cX12_figure 43 = .ok (.iconst 0, 1) := by decide +kernel
theorem dX12_figure_44 : decode cX12_figure 44 = .ok (.istore 6, 2) := by decide +kernel
theorem dX12_figure_46 : decode cX12_figure 46 = .ok (.lload_n 1, 1) := by decide +kernel
theorem dX12_figure_47 : decode cX12_figure 47 = .ok (.lstore 7, 2) := by decide +kernel
theorem dX12_figure_49 : decode cX12_figure 49 = .ok (.iload 5, 2) := by decide +kernel
theorem dX12_figure_51 : decode cX12_figure 51 = .ok (.ifCond .eq 10, 3) := by decide +kernel
theorem dX12_figure_54 : decode cX12_figure 54 = .ok (.lload 7, 2) := by decide +kernel
theorem dX12_figure_56 : decode cX12_figure 56 = .ok (.lconst 0, 1) := by decide +kernel
theorem dX12_figure_57 : decode cX12_figure 57 = .ok (.lcmp, 1) := by decide +kernel
theorem dX12_figure_58 : decode cX12_figure 58 = .ok (.ifCond .le 45, 3) := by decide +kernel
theorem dX12_figure_61 : decode cX12_figure 61 = .ok (.iload 5, 2) := by decide +kernel
theorem dX12_figure_63 : decode cX12_figure 63 = .ok (.iload 4, 2) := by decide +kernel
theorem dX12_figure_65 : decode cX12_figure 65 = .ok (.if_icmp .ne 11, 3) := by decide +kernel
theorem dX12_figure_68 : decode cX12_figure 68 = .ok (.lload 7, 2) := by decide +kernel
theorem dX12_figure_70 : decode cX12_figure 70 = .ok (.iload_n 3, 1) := by decide +kernel
theorem dX12_figure_71 : decode cX12_figure 71 = .ok (.i2l, 1) := by decide +kernel
theorem dX12_figure_72 : decode cX12_figure 72 = .ok (.lrem, 1) := by decide +kernel
theorem dX12_figure_73 : decode cX12_figure 73 = .ok (.l2i, 1) := by decide +kernel
theorem dX12_figure_74 : decode cX12_figure 74 = .ok (.istore 6, 2) := by decide +kernel
theorem dX12_figure_76 : decode cX12_figure 76 = .ok (.lload 7, 2) := by decide +kernel
theorem dX12_figure_78 : decode cX12_figure 78 = .ok (.iload_n 3, 1) := by decide +kernel
theorem dX12_figure_79 : decode cX12_figure 79 = .ok (.i2l, 1) := by decide +kernel
theorem dX12_figure_80 : decode cX12_figure 80 = .ok (.ldiv, 1) := by decide +kernel
theorem dX12_figure_81 : decode cX12_figure 81 = .ok (.lstore 7, 2) := by decide +kernel
theorem dX12_figure_83 : decode cX12_figure 83 = .ok (.iinc 5 1, 3) := by decide +kernel
theorem dX12_figure_86 : decode cX12_figure 86 = .ok (.iload 5, 2) := by decide +kernel
theorem dX12_figure_88 : decode cX12_figure 88 = .ok (.bipush 6, 2) := by decide +kernel
theorem dX12_figure_90 : decode cX12_figure 90 = .ok (.if_icmp .ne (-41), 3) := by decide +kernel
theorem dX12_figure_93 : decode cX12_figure 93 = .ok (.lload 7, 2) := by decide +kernel
theorem dX12_figure_95 : decode cX12_figure 95 = .ok (.lconst 0, 1) := by decide +kernel
theorem dX12_figure_96 : decode cX12_figure 96 = .ok (.lcmp, 1) := by decide +kernel
theorem dX12_figure_97 : decode cX12_figure 97 = .ok (.ifCond .le (-48), 3) := by decide +kernel
theorem dX12_figure_100 : decode cX12_figure 100 = .ok (.bipush (-2), 2) := by decide +kernel
theorem dX12_figure_102 : decode cX12_figure 102 = .ok (.ireturn, 1) := by decide +kernel
theorem dX12_figure_103 : decode cX12_figure 103 = .ok (.iload 4, 2) := by decide +kernel
theorem dX12_figure_105 : decode cX12_figure 105 = .ok (.bipush 6, 2) := by decide +kernel
theorem dX12_figure_107 : decode cX12_figure 107 = .ok (.if_icmp .ne 8, 3) := by decide +kernel
theorem dX12_figure_110 : decode cX12_figure 110 = .ok (.iload 5, 2) := by decide +kernel
theorem dX12_figure_112 : decode cX12_figure 112 = .ok (.goto 5, 3) := by decide +kernel
theorem dX12_figure_115 : decode cX12_figure 115 = .ok (.iload 6, 2) := by decide +kernel
theorem dX12_figure_117 : decode cX12_figure 117 = .ok (.ireturn, 1) := by decide +kernel
theorem dX12_placeAt_0 : decode cX12_placeAt 0 = .ok (.iload_n 2, 1) := by decide +kernel
theorem dX12_placeAt_1 : decode cX12_placeAt 1 = .ok (.aload_n 0, 1) := by decide +kernel
theorem dX12_placeAt_2 : decode cX12_placeAt 2 = .ok (.iload_n 1, 1) := by decide +kernel
theorem dX12_placeAt_3 : decode cX12_placeAt 3 = .ok (.invokevirtual 339, 3) := by decide +kernel
theorem dX12_placeAt_6 : decode cX12_placeAt 6 = .ok (.if_icmp .ge 12, 3) := by decide +kernel
theorem dX12_placeAt_9 : decode cX12_placeAt 9 = .ok (.aload_n 0, 1) := by decide +kernel
theorem dX12_placeAt_10 : decode cX12_placeAt 10 = .ok (.iload_n 1, 1) := by decide +kernel
theorem dX12_placeAt_11 : decode cX12_placeAt 11 = .ok (.iload_n 2, 1) := by decide +kernel
theorem dX12_placeAt_12 : decode cX12_placeAt 12 = .ok (.invokevirtual 342, 3) := by decide +kernel
theorem dX12_placeAt_15 : decode cX12_placeAt 15 = .ok (.goto 4, 3) := by decide +kernel
theorem dX12_placeAt_18 : decode cX12_placeAt 18 = .ok (.iconst 0, 1) := by decide +kernel
theorem dX12_placeAt_19 : decode cX12_placeAt 19 = .ok (.ireturn, 1) := by decide +kernel
theorem dX12_areRows_0 : decode cX12_areRows 0 = .ok (.aload_n 0, 1) := by decide +kernel
theorem dX12_areRows_1 : decode cX12_areRows 1 = .ok (.iload_n 1, 1) := by decide +kernel
theorem dX12_areRows_2 : decode cX12_areRows 2 = .ok (.invokevirtual 336, 3) := by decide +kernel
theorem dX12_areRows_5 : decode cX12_areRows 5 = .ok (.ifCond .eq 27, 3) := by decide +kernel
theorem dX12_areRows_8 : decode cX12_areRows 8 = .ok (.aload_n 0, 1) := by decide +kernel
theorem dX12_areRows_9 : decode cX12_areRows 9 = .ok (.iload_n 2, 1) := by decide +kernel
theorem dX12_areRows_10 : decode cX12_areRows 10 = .ok (.invokevirtual 336, 3) := by decide +kernel
theorem dX12_areRows_13 : decode cX12_areRows 13 = .ok (.ifCond .eq 19, 3) := by decide +kernel
theorem dX12_areRows_16 : decode cX12_areRows 16 = .ok (.iload_n 3, 1) := by decide +kernel
theorem dX12_areRows_17 : decode cX12_areRows 17 = .ok (.i2l, 1) := by decide +kernel
theorem dX12_areRows_18 : decode cX12_areRows 18 = .ok (.lconst 0, 1) := by decide +kernel
theorem dX12_areRows_19 : decode cX12_areRows 19 = .ok (.ldc2_w 355, 3) := by decide +kernel
theorem dX12_areRows_22 : decode cX12_areRows 22 = .ok (.invokestatic 332, 3) := by decide +kernel
theorem dX12_areRows_25 : decode cX12_areRows 25 = .ok (.ifCond .eq 7, 3) := by decide +kernel
theorem dX12_areRows_28 : decode cX12_areRows 28 = .ok (.iconst 1, 1) := by decide +kernel
theorem dX12_areRows_29 : decode cX12_areRows 29 = .ok (.goto 4, 3) := by decide +kernel
theorem dX12_areRows_32 : decode cX12_areRows 32 = .ok (.iconst 0, 1) := by decide +kernel
theorem dX12_areRows_33 : decode cX12_areRows 33 = .ok (.ireturn, 1) := by decide +kernel
theorem dX12_plus_0 : decode cX12_plus 0 = .ok (.aload_n 0, 1) := by decide +kernel
theorem dX12_plus_1 : decode cX12_plus 1 = .ok (.iload_n 1, 1) := by decide +kernel
theorem dX12_plus_2 : decode cX12_plus 2 = .ok (.iload_n 2, 1) := by decide +kernel
theorem dX12_plus_3 : decode cX12_plus 3 = .ok (.iload_n 3, 1) := by decide +kernel
theorem dX12_plus_4 : decode cX12_plus 4 = .ok (.invokevirtual 378, 3) := by decide +kernel
theorem dX12_plus_7 : decode cX12_plus 7 = .ok (.ifCond .eq 19, 3) := by decide +kernel
theorem dX12_plus_10 : decode cX12_plus 10 = .ok (.aload_n 0, 1) := by decide +kernel
theorem dX12_plus_11 : decode cX12_plus 11 = .ok (.iload_n 1, 1) := by decide +kernel
theorem dX12_plus_12 : decode cX12_plus 12 = .ok (.iload_n 3, 1) := by decide +kernel
theorem dX12_plus_13 : decode cX12_plus 13 = .ok (.invokevirtual 382, 3) := by decide +kernel
theorem dX12_plus_16 : decode cX12_plus 16 = .ok (.aload_n 0, 1) := by decide +kernel
theorem dX12_plus_17 : decode cX12_plus 17 = .ok (.iload_n 2, 1) := by decide +kernel
theorem dX12_plus_18 : decode cX12_plus 18 = .ok (.iload_n 3, 1) := by decide +kernel
theorem dX12_plus_19 : decode cX12_plus 19 = .ok (.invokevirtual 382, 3) := by decide +kernel
theorem dX12_plus_22 : decode cX12_plus 22 = .ok (.iadd, 1) := by decide +kernel
theorem dX12_plus_23 : decode cX12_plus 23 = .ok (.goto 6, 3) := by decide +kernel
theorem dX12_plus_26 : decode cX12_plus 26 = .ok (.ldc_w 385, 3) := by decide +kernel
theorem dX12_plus_29 : decode cX12_plus 29 = .ok (.ireturn, 1) := by decide +kernel
theorem dX12_times_0 : decode cX12_times 0 = .ok (.aload_n 0, 1) := by decide +kernel
theorem dX12_times_1 : decode cX12_times 1 = .ok (.iload_n 1, 1) := by decide +kernel
theorem dX12_times_2 : decode cX12_times 2 = .ok (.iload_n 2, 1) := by decide +kernel
theorem dX12_times_3 : decode cX12_times 3 = .ok (.iload_n 3, 1) := by decide +kernel
theorem dX12_times_4 : decode cX12_times 4 = .ok (.invokevirtual 378, 3) := by decide +kernel
theorem dX12_times_7 : decode cX12_times 7 = .ok (.ifCond .ne 7, 3) := by decide +kernel
theorem dX12_times_10 : decode cX12_times 10 = .ok (.ldc_w 385, 3) := by decide +kernel
theorem dX12_times_13 : decode cX12_times 13 = .ok (.ireturn, 1) := by decide +kernel
theorem dX12_times_14 : decode cX12_times 14 = .ok (.iconst 0, 1) := by decide +kernel
theorem dX12_times_15 : decode cX12_times 15 = .ok (.istore 4, 2) := by decide +kernel
theorem dX12_times_17 : decode cX12_times 17 = .ok (.iconst 0, 1) := by decide +kernel
theorem dX12_times_18 : decode cX12_times 18 = .ok (.istore 5, 2) := by decide +kernel
theorem dX12_times_20 : decode cX12_times 20 = .ok (.iload 5, 2) := by decide +kernel
theorem dX12_times_22 : decode cX12_times 22 = .ok (.iload_n 3, 1) := by decide +kernel
theorem dX12_times_23 : decode cX12_times 23 = .ok (.if_icmp .gt 31, 3) := by decide +kernel
theorem dX12_times_26 : decode cX12_times 26 = .ok (.iload 4, 2) := by decide +kernel
theorem dX12_times_28 : decode cX12_times 28 = .ok (.aload_n 0, 1) := by decide +kernel
theorem dX12_times_29 : decode cX12_times 29 = .ok (.iload_n 1, 1) := by decide +kernel
theorem dX12_times_30 : decode cX12_times 30 = .ok (.iload 5, 2) := by decide +kernel
theorem dX12_times_32 : decode cX12_times 32 = .ok (.invokevirtual 382, 3) := by decide +kernel
theorem dX12_times_35 : decode cX12_times 35 = .ok (.aload_n 0, 1) := by decide +kernel
theorem dX12_times_36 : decode cX12_times 36 = .ok (.iload_n 2, 1) := by decide +kernel
theorem dX12_times_37 : decode cX12_times 37 = .ok (.iload_n 3, 1) := by decide +kernel
theorem dX12_times_38 : decode cX12_times 38 = .ok (.iload 5, 2) := by decide +kernel
theorem dX12_times_40 : decode cX12_times 40 = .ok (.isub, 1) := by decide +kernel
theorem dX12_times_41 : decode cX12_times 41 = .ok (.invokevirtual 382, 3) := by decide +kernel
theorem dX12_times_44 : decode cX12_times 44 = .ok (.imul, 1) := by decide +kernel
theorem dX12_times_45 : decode cX12_times 45 = .ok (.iadd, 1) := by decide +kernel
theorem dX12_times_46 : decode cX12_times 46 = .ok (.istore 4, 2) := by decide +kernel
theorem dX12_times_48 : decode cX12_times 48 = .ok (.iinc 5 1, 3) := by decide +kernel
theorem dX12_times_51 : decode cX12_times 51 = .ok (.goto (-31), 3) := by decide +kernel
theorem dX12_times_54 : decode cX12_times 54 = .ok (.iload 4, 2) := by decide +kernel
theorem dX12_times_56 : decode cX12_times 56 = .ok (.ireturn, 1) := by decide +kernel
theorem dX12_degree_0 : decode cX12_degree 0 = .ok (.aload_n 0, 1) := by decide +kernel
theorem dX12_degree_1 : decode cX12_degree 1 = .ok (.iload_n 1, 1) := by decide +kernel
theorem dX12_degree_2 : decode cX12_degree 2 = .ok (.invokevirtual 336, 3) := by decide +kernel
theorem dX12_degree_5 : decode cX12_degree 5 = .ok (.ifCond .ne 5, 3) := by decide +kernel
theorem dX12_degree_8 : decode cX12_degree 8 = .ok (.iconst (-1), 1) := by decide +kernel
theorem dX12_degree_9 : decode cX12_degree 9 = .ok (.ireturn, 1) := by decide +kernel
theorem dX12_degree_10 : decode cX12_degree 10 = .ok (.aload_n 0, 1) := by decide +kernel
theorem dX12_degree_11 : decode cX12_degree 11 = .ok (.iload_n 1, 1) := by decide +kernel
theorem dX12_degree_12 : decode cX12_degree 12 = .ok (.invokevirtual 339, 3) := by decide +kernel
theorem dX12_degree_15 : decode cX12_degree 15 = .ok (.iconst 1, 1) := by decide +kernel
theorem dX12_degree_16 : decode cX12_degree 16 = .ok (.isub, 1) := by decide +kernel
theorem dX12_degree_17 : decode cX12_degree 17 = .ok (.istore_n 2, 1) := by decide +kernel
theorem dX12_degree_18 : decode cX12_degree 18 = .ok (.iload_n 2, 1) := by decide +kernel
theorem dX12_degree_19 : decode cX12_degree 19 = .ok (.ifCond .lt 20, 3) := by decide +kernel
theorem dX12_degree_22 : decode cX12_degree 22 = .ok (.aload_n 0, 1) := by decide +kernel
theorem dX12_degree_23 : decode cX12_degree 23 = .ok (.iload_n 1, 1) := by decide +kernel
theorem dX12_degree_24 : decode cX12_degree 24 = .ok (.iload_n 2, 1) := by decide +kernel
theorem dX12_degree_25 : decode cX12_degree 25 = .ok (.invokevirtual 342, 3) := by decide +kernel
theorem dX12_degree_28 : decode cX12_degree 28 = .ok (.ifCond .eq 5, 3) := by decide +kernel
theorem dX12_degree_31 : decode cX12_degree 31 = .ok (.iload_n 2, 1) := by decide +kernel
theorem dX12_degree_32 : decode cX12_degree 32 = .ok (.ireturn, 1) := by decide +kernel
theorem dX12_degree_33 : decode cX12_degree 33 = .ok (.iinc 2 (-1), 3) := by decide +kernel
theorem dX12_degree_36 : decode cX12_degree 36 = .ok (.goto (-18), 3) := by decide +kernel
theorem dX12_degree_39 : decode cX12_degree 39 = .ok (.bipush (-2), 2) := by decide +kernel
theorem dX12_degree_41 : decode cX12_degree 41 = .ok (.ireturn, 1) := by decide +kernel
theorem dX12_restBy_0 : decode cX12_restBy 0 = .ok (.iconst 0, 1) := by decide +kernel
theorem dX12_restBy_1 : decode cX12_restBy 1 = .ok (.istore_n 3, 1) := by decide +kernel
theorem dX12_restBy_2 : decode cX12_restBy 2 = .ok (.aload_n 0, 1) := by decide +kernel
theorem dX12_restBy_3 : decode cX12_restBy 3 = .ok (.iload_n 1, 1) := by decide +kernel
theorem dX12_restBy_4 : decode cX12_restBy 4 = .ok (.invokevirtual 339, 3) := by decide +kernel
theorem dX12_restBy_7 : decode cX12_restBy 7 = .ok (.iconst 1, 1) := by decide +kernel
theorem dX12_restBy_8 : decode cX12_restBy 8 = .ok (.isub, 1) := by decide +kernel
theorem dX12_restBy_9 : decode cX12_restBy 9 = .ok (.istore 4, 2) := by decide +kernel
theorem dX12_restBy_11 : decode cX12_restBy 11 = .ok (.iload 4, 2) := by decide +kernel
theorem dX12_restBy_13 : decode cX12_restBy 13 = .ok (.ifCond .lt 25, 3) := by decide +kernel
theorem dX12_restBy_16 : decode cX12_restBy 16 = .ok (.aload_n 0, 1) := by decide +kernel
theorem dX12_restBy_17 : decode cX12_restBy 17 = .ok (.iload_n 3, 1) := by decide +kernel
theorem dX12_restBy_18 : decode cX12_restBy 18 = .ok (.iload_n 2, 1) := by decide +kernel
theorem dX12_restBy_19 : decode cX12_restBy 19 = .ok (.imul, 1) := by decide +kernel
theorem dX12_restBy_20 : decode cX12_restBy 20 = .ok (.aload_n 0, 1) := by decide +kernel
theorem dX12_restBy_21 : decode cX12_restBy 21 = .ok (.iload_n 1, 1) := by decide +kernel
theorem dX12_restBy_22 : decode cX12_restBy 22 = .ok (.iload 4, 2) := by decide +kernel
theorem dX12_restBy_24 : decode cX12_restBy 24 = .ok (.invokevirtual 342, 3) := by decide +kernel
theorem dX12_restBy_27 : decode cX12_restBy 27 = .ok (.iadd, 1) := by decide +kernel
theorem dX12_restBy_28 : decode cX12_restBy 28 = .ok (.invokevirtual 386, 3) := by decide +kernel
theorem dX12_restBy_31 : decode cX12_restBy 31 = .ok (.istore_n 3, 1) := by decide +kernel
theorem dX12_restBy_32 : decode cX12_restBy 32 = .ok (.iinc 4 (-1), 3) := by decide +kernel
theorem dX12_restBy_35 : decode cX12_restBy 35 = .ok (.goto (-24), 3) := by decide +kernel
theorem dX12_restBy_38 : decode cX12_restBy 38 = .ok (.iload_n 3, 1) := by decide +kernel
theorem dX12_restBy_39 : decode cX12_restBy 39 = .ok (.ireturn, 1) := by decide +kernel
theorem dX12_rest_0 : decode cX12_rest 0 = .ok (.aload_n 0, 1) := by decide +kernel
theorem dX12_rest_1 : decode cX12_rest 1 = .ok (.iload_n 1, 1) := by decide +kernel
theorem dX12_rest_2 : decode cX12_rest 2 = .ok (.invokevirtual 336, 3) := by decide +kernel
theorem dX12_rest_5 : decode cX12_rest 5 = .ok (.ifCond .eq 24, 3) := by decide +kernel
theorem dX12_rest_8 : decode cX12_rest 8 = .ok (.iload_n 2, 1) := by decide +kernel
theorem dX12_rest_9 : decode cX12_rest 9 = .ok (.i2l, 1) := by decide +kernel
theorem dX12_rest_10 : decode cX12_rest 10 = .ok (.lconst 0, 1) := by decide +kernel
theorem dX12_rest_11 : decode cX12_rest 11 = .ok (.ldc2_w 389, 3) := by decide +kernel
theorem dX12_rest_14 : decode cX12_rest 14 = .ok (.invokestatic 332, 3) := by decide +kernel
theorem dX12_rest_17 : decode cX12_rest 17 = .ok (.ifCond .eq 12, 3) := by decide +kernel
theorem dX12_rest_20 : decode cX12_rest 20 = .ok (.aload_n 0, 1) := by decide +kernel
theorem dX12_rest_21 : decode cX12_rest 21 = .ok (.iload_n 1, 1) := by decide +kernel
theorem dX12_rest_22 : decode cX12_rest 22 = .ok (.iload_n 2, 1) := by decide +kernel
theorem dX12_rest_23 : decode cX12_rest 23 = .ok (.invokevirtual 391, 3) := by decide +kernel
theorem dX12_rest_26 : decode cX12_rest 26 = .ok (.goto 4, 3) := by decide +kernel
theorem dX12_rest_29 : decode cX12_rest 29 = .ok (.iconst (-1), 1) := by decide +kernel
theorem dX12_rest_30 : decode cX12_rest 30 = .ok (.ireturn, 1) := by decide +kernel
theorem dX12_alike_0 : decode cX12_alike 0 = .ok (.aload_n 0, 1) := by decide +kernel
theorem dX12_alike_1 : decode cX12_alike 1 = .ok (.iload_n 1, 1) := by decide +kernel
theorem dX12_alike_2 : decode cX12_alike 2 = .ok (.invokevirtual 336, 3) := by decide +kernel
theorem dX12_alike_5 : decode cX12_alike 5 = .ok (.ifCond .eq 16, 3) := by decide +kernel
theorem dX12_alike_8 : decode cX12_alike 8 = .ok (.aload_n 0, 1) := by decide +kernel
theorem dX12_alike_9 : decode cX12_alike 9 = .ok (.iload_n 2, 1) := by decide +kernel
theorem dX12_alike_10 : decode cX12_alike 10 = .ok (.invokevirtual 336, 3) := by decide +kernel
theorem dX12_alike_13 : decode cX12_alike 13 = .ok (.ifCond .eq 8, 3) := by decide +kernel
theorem dX12_alike_16 : decode cX12_alike 16 = .ok (.iload_n 1, 1) := by decide +kernel
theorem dX12_alike_17 : decode cX12_alike 17 = .ok (.iload_n 2, 1) := by decide +kernel
theorem dX12_alike_18 : decode cX12_alike 18 = .ok (.if_icmp .ne 5, 3) := by decide +kernel
theorem dX12_alike_21 : decode cX12_alike 21 = .ok (.iconst (-1), 1) := by decide +kernel
theorem dX12_alike_22 : decode cX12_alike 22 = .ok (.ireturn, 1) := by decide +kernel
theorem dX12_alike_23 : decode cX12_alike 23 = .ok (.iconst 0, 1) := by decide +kernel
theorem dX12_alike_24 : decode cX12_alike 24 = .ok (.istore_n 3, 1) := by decide +kernel
theorem dX12_alike_25 : decode cX12_alike 25 = .ok (.iconst 0, 1) := by decide +kernel
theorem dX12_alike_26 : decode cX12_alike 26 = .ok (.istore 4, 2) := by decide +kernel
theorem dX12_alike_28 : decode cX12_alike 28 = .ok (.iload 4, 2) := by decide +kernel
theorem dX12_alike_30 : decode cX12_alike 30 = .ok (.aload_n 0, 1) := by decide +kernel
theorem dX12_alike_31 : decode cX12_alike 31 = .ok (.getfield 52, 3) := by decide +kernel
theorem dX12_alike_34 : decode cX12_alike 34 = .ok (.aload_n 0, 1) := by decide +kernel
theorem dX12_alike_35 : decode cX12_alike 35 = .ok (.getfield 243, 3) := by decide +kernel
theorem dX12_alike_38 : decode cX12_alike 38 = .ok (.iaload, 1) := by decide +kernel
theorem dX12_alike_39 : decode cX12_alike 39 = .ok (.if_icmp .ge 29, 3) := by decide +kernel
theorem dX12_alike_42 : decode cX12_alike 42 = .ok (.aload_n 0, 1) := by decide +kernel
theorem dX12_alike_43 : decode cX12_alike 43 = .ok (.iload_n 1, 1) := by decide +kernel
theorem dX12_alike_44 : decode cX12_alike 44 = .ok (.iload 4, 2) := by decide +kernel
theorem dX12_alike_46 : decode cX12_alike 46 = .ok (.invokevirtual 391, 3) := by decide +kernel
theorem dX12_alike_49 : decode cX12_alike 49 = .ok (.aload_n 0, 1) := by decide +kernel
theorem dX12_alike_50 : decode cX12_alike 50 = .ok (.iload_n 2, 1) := by decide +kernel
theorem dX12_alike_51 : decode cX12_alike 51 = .ok (.iload 4, 2) := by decide +kernel
theorem dX12_alike_53 : decode cX12_alike 53 = .ok (.invokevirtual 391, 3) := by decide +kernel
theorem dX12_alike_56 : decode cX12_alike 56 = .ok (.if_icmp .ne 6, 3) := by decide +kernel
theorem dX12_alike_59 : decode cX12_alike 59 = .ok (.iinc 3 1, 3) := by decide +kernel
theorem dX12_alike_62 : decode cX12_alike 62 = .ok (.iinc 4 1, 3) := by decide +kernel
theorem dX12_alike_65 : decode cX12_alike 65 = .ok (.goto (-37), 3) := by decide +kernel
theorem dX12_alike_68 : decode cX12_alike 68 = .ok (.iload_n 3, 1) := by decide +kernel
theorem dX12_alike_69 : decode cX12_alike 69 = .ok (.ireturn, 1) := by decide +kernel
theorem dX12_meets_0 : decode cX12_meets 0 = .ok (.aload_n 0, 1) := by decide +kernel
theorem dX12_meets_1 : decode cX12_meets 1 = .ok (.iload_n 1, 1) := by decide +kernel
theorem dX12_meets_2 : decode cX12_meets 2 = .ok (.invokevirtual 336, 3) := by decide +kernel
theorem dX12_meets_5 : decode cX12_meets 5 = .ok (.ifCond .eq 16, 3) := by decide +kernel
theorem dX12_meets_8 : decode cX12_meets 8 = .ok (.aload_n 0, 1) := by decide +kernel
theorem dX12_meets_9 : decode cX12_meets 9 = .ok (.iload_n 2, 1) := by decide +kernel
theorem dX12_meets_10 : decode cX12_meets 10 = .ok (.invokevirtual 336, 3) := by decide +kernel
theorem dX12_meets_13 : decode cX12_meets 13 = .ok (.ifCond .eq 8, 3) := by decide +kernel
theorem dX12_meets_16 : decode cX12_meets 16 = .ok (.iload_n 1, 1) := by decide +kernel
theorem dX12_meets_17 : decode cX12_meets 17 = .ok (.iload_n 2, 1) := by decide +kernel
theorem dX12_meets_18 : decode cX12_meets 18 = .ok (.if_icmp .ne 5, 3) := by decide +kernel
theorem dX12_meets_21 : decode cX12_meets 21 = .ok (.iconst (-1), 1) := by decide +kernel
theorem dX12_meets_22 : decode cX12_meets 22 = .ok (.ireturn, 1) := by decide +kernel
theorem dX12_meets_23 : decode cX12_meets 23 = .ok (.iconst 0, 1) := by decide +kernel
theorem dX12_meets_24 : decode cX12_meets 24 = .ok (.istore_n 3, 1) := by decide +kernel
theorem dX12_meets_25 : decode cX12_meets 25 = .ok (.iload_n 3, 1) := by decide +kernel
theorem dX12_meets_26 : decode cX12_meets 26 = .ok (.sipush 1000, 3) := by decide +kernel
theorem dX12_meets_29 : decode cX12_meets 29 = .ok (.if_icmp .ge 29, 3) := by decide +kernel
theorem dX12_meets_32 : decode cX12_meets 32 = .ok (.aload_n 0, 1) := by decide +kernel
theorem dX12_meets_33 : decode cX12_meets 33 = .ok (.iload_n 1, 1) := by decide +kernel
theorem dX12_meets_34 : decode cX12_meets 34 = .ok (.iload_n 3, 1) := by decide +kernel
theorem dX12_meets_35 : decode cX12_meets 35 = .ok (.i2l, 1) := by decide +kernel
theorem dX12_meets_36 : decode cX12_meets 36 = .ok (.invokevirtual 349, 3) := by decide +kernel
theorem dX12_meets_39 : decode cX12_meets 39 = .ok (.aload_n 0, 1) := by decide +kernel
theorem dX12_meets_40 : decode cX12_meets 40 = .ok (.iload_n 2, 1) := by decide +kernel
theorem dX12_meets_41 : decode cX12_meets 41 = .ok (.iload_n 3, 1) := by decide +kernel
theorem dX12_meets_42 : decode cX12_meets 42 = .ok (.i2l, 1) := by decide +kernel
theorem dX12_meets_43 : decode cX12_meets 43 = .ok (.invokevirtual 349, 3) := by decide +kernel
theorem dX12_meets_46 : decode cX12_meets 46 = .ok (.lcmp, 1) := by decide +kernel
theorem dX12_meets_47 : decode cX12_meets 47 = .ok (.ifCond .ne 5, 3) := by decide +kernel
theorem dX12_meets_50 : decode cX12_meets 50 = .ok (.iload_n 3, 1) := by decide +kernel
theorem dX12_meets_51 : decode cX12_meets 51 = .ok (.ireturn, 1) := by decide +kernel
theorem dX12_meets_52 : decode cX12_meets 52 = .ok (.iinc 3 1, 3) := by decide +kernel
theorem dX12_meets_55 : decode cX12_meets 55 = .ok (.goto (-30), 3) := by decide +kernel
theorem dX12_meets_58 : decode cX12_meets 58 = .ok (.bipush (-2), 2) := by decide +kernel
theorem dX12_meets_60 : decode cX12_meets 60 = .ok (.ireturn, 1) := by decide +kernel
theorem dX12_worldAll_0 : decode cX12_worldAll 0 = .ok (.iconst 1, 1) := by decide +kernel
theorem dX12_worldAll_1 : decode cX12_worldAll 1 = .ok (.istore_n 1, 1) := by decide +kernel
theorem dX12_worldAll_2 : decode cX12_worldAll 2 = .ok (.iconst 0, 1) := by decide +kernel
theorem dX12_worldAll_3 : decode cX12_worldAll 3 = .ok (.istore_n 2, 1) := by decide +kernel
theorem dX12_worldAll_4 : decode cX12_worldAll 4 = .ok (.iload_n 2, 1) := by decide +kernel
theorem dX12_worldAll_5 : decode cX12_worldAll 5 = .ok (.aload_n 0, 1) := by decide +kernel
theorem dX12_worldAll_6 : decode cX12_worldAll 6 = .ok (.getfield 73, 3) := by decide +kernel
theorem dX12_worldAll_9 : decode cX12_worldAll 9 = .ok (.aload_n 0, 1) := by decide +kernel
theorem dX12_worldAll_10 : decode cX12_worldAll 10 = .ok (.getfield 243, 3) := by decide +kernel
theorem dX12_worldAll_13 : decode cX12_worldAll 13 = .ok (.iaload, 1) := by decide +kernel
theorem dX12_worldAll_14 : decode cX12_worldAll 14 = .ok (.if_icmp .ge 23, 3) := by decide +kernel
theorem dX12_worldAll_17 : decode cX12_worldAll 17 = .ok (.iload_n 1, 1) := by decide +kernel
theorem dX12_worldAll_18 : decode cX12_worldAll 18 = .ok (.aload_n 0, 1) := by decide +kernel
theorem dX12_worldAll_19 : decode cX12_worldAll 19 = .ok (.getfield 76, 3) := by decide +kernel
theorem dX12_worldAll_22 : decode cX12_worldAll 22 = .ok (.aload_n 0, 1) := by decide +kernel
theorem dX12_worldAll_23 : decode cX12_worldAll 23 = .ok (.getfield 243, 3) := by decide +kernel
theorem dX12_worldAll_26 : decode cX12_worldAll 26 = .ok (.iaload, 1) := by decide +kernel
theorem dX12_worldAll_27 : decode cX12_worldAll 27 = .ok (.iconst 1, 1) := by decide +kernel
theorem dX12_worldAll_28 : decode cX12_worldAll 28 = .ok (.iadd, 1) := by decide +kernel
theorem dX12_worldAll_29 : decode cX12_worldAll 29 = .ok (.imul, 1) := by decide +kernel
theorem dX12_worldAll_30 : decode cX12_worldAll 30 = .ok (.istore_n 1, 1) := by decide +kernel
theorem dX12_worldAll_31 : decode cX12_worldAll 31 = .ok (.iinc 2 1, 3) := by decide +kernel
theorem dX12_worldAll_34 : decode cX12_worldAll 34 = .ok (.goto (-30), 3) := by decide +kernel
theorem dX12_worldAll_37 : decode cX12_worldAll 37 = .ok (.iload_n 1, 1) := by decide +kernel
theorem dX12_worldAll_38 : decode cX12_worldAll 38 = .ok (.ireturn, 1) := by decide +kernel
theorem dX12_figureOf_0 : decode cX12_figureOf 0 = .ok (.iload_n 1, 1) := by decide +kernel
theorem dX12_figureOf_1 : decode cX12_figureOf 1 = .ok (.istore_n 3, 1) := by decide +kernel
theorem dX12_figureOf_2 : decode cX12_figureOf 2 = .ok (.iconst 0, 1) := by decide +kernel
theorem dX12_figureOf_3 : decode cX12_figureOf 3 = .ok (.istore 4, 2) := by decide +kernel
theorem dX12_figureOf_5 : decode cX12_figureOf 5 = .ok (.iload 4, 2) := by decide +kernel
theorem dX12_figureOf_7 : decode cX12_figureOf 7 = .ok (.iload_n 2, 1) := by decide +kernel
theorem dX12_figureOf_8 : decode cX12_figureOf 8 = .ok (.if_icmp .ge 23, 3) := by decide +kernel
theorem dX12_figureOf_11 : decode cX12_figureOf 11 = .ok (.iload_n 3, 1) := by decide +kernel
theorem dX12_figureOf_12 : decode cX12_figureOf 12 = .ok (.aload_n 0, 1) := by decide +kernel
theorem dX12_figureOf_13 : decode cX12_figureOf 13 = .ok (.getfield 76, 3) := by decide +kernel
theorem dX12_figureOf_16 : decode cX12_figureOf 16 = .ok (.aload_n 0, 1) := by decide +kernel
theorem dX12_figureOf_17 : decode cX12_figureOf 17 = .ok (.getfield 243, 3) := by decide +kernel
theorem dX12_figureOf_20 : decode cX12_figureOf 20 = .ok (.iaload, 1) := by decide +kernel
theorem dX12_figureOf_21 : decode cX12_figureOf 21 = .ok (.iconst 1, 1) := by decide +kernel
theorem dX12_figureOf_22 : decode cX12_figureOf 22 = .ok (.iadd, 1) := by decide +kernel
theorem dX12_figureOf_23 : decode cX12_figureOf 23 = .ok (.idiv, 1) := by decide +kernel
theorem dX12_figureOf_24 : decode cX12_figureOf 24 = .ok (.istore_n 3, 1) := by decide +kernel
theorem dX12_figureOf_25 : decode cX12_figureOf 25 = .ok (.iinc 4 1, 3) := by decide +kernel
theorem dX12_figureOf_28 : decode cX12_figureOf 28 = .ok (.goto (-23), 3) := by decide +kernel
theorem dX12_figureOf_31 : decode cX12_figureOf 31 = .ok (.iload_n 3, 1) := by decide +kernel
theorem dX12_figureOf_32 : decode cX12_figureOf 32 = .ok (.aload_n 0, 1) := by decide +kernel
theorem dX12_figureOf_33 : decode cX12_figureOf 33 = .ok (.getfield 76, 3) := by decide +kernel
theorem dX12_figureOf_36 : decode cX12_figureOf 36 = .ok (.aload_n 0, 1) := by decide +kernel
theorem dX12_figureOf_37 : decode cX12_figureOf 37 = .ok (.getfield 243, 3) := by decide +kernel
theorem dX12_figureOf_40 : decode cX12_figureOf 40 = .ok (.iaload, 1) := by decide +kernel
theorem dX12_figureOf_41 : decode cX12_figureOf 41 = .ok (.iconst 1, 1) := by decide +kernel
theorem dX12_figureOf_42 : decode cX12_figureOf 42 = .ok (.iadd, 1) := by decide +kernel
theorem dX12_figureOf_43 : decode cX12_figureOf 43 = .ok (.irem, 1) := by decide +kernel
theorem dX12_figureOf_44 : decode cX12_figureOf 44 = .ok (.ireturn, 1) := by decide +kernel
theorem dX12_worldComes_0 : decode cX12_worldComes 0 = .ok (.lconst 0, 1) := by decide +kernel
theorem dX12_worldComes_1 : decode cX12_worldComes 1 = .ok (.lstore 4, 2) := by decide +kernel
theorem dX12_worldComes_3 : decode cX12_worldComes 3 = .ok (.aload_n 0, 1) := by decide +kernel
theorem dX12_worldComes_4 : decode cX12_worldComes 4 = .ok (.getfield 73, 3) := by decide +kernel
theorem dX12_worldComes_7 : decode cX12_worldComes 7 = .ok (.aload_n 0, 1) := by decide +kernel
theorem dX12_worldComes_8 : decode cX12_worldComes 8 = .ok (.getfield 243, 3) := by decide +kernel
theorem dX12_worldComes_11 : decode cX12_worldComes 11 = .ok (.iaload, 1) := by decide +kernel
theorem dX12_worldComes_12 : decode cX12_worldComes 12 = .ok (.iconst 1, 1) := by decide +kernel
theorem dX12_worldComes_13 : decode cX12_worldComes 13 = .ok (.isub, 1) := by decide +kernel
theorem dX12_worldComes_14 : decode cX12_worldComes 14 = .ok (.istore 6, 2) := by decide +kernel
theorem dX12_worldComes_16 : decode cX12_worldComes 16 = .ok (.iload 6, 2) := by decide +kernel
theorem dX12_worldComes_18 : decode cX12_worldComes 18 = .ok (.ifCond .lt 24, 3) := by decide +kernel
theorem dX12_worldComes_21 : decode cX12_worldComes 21 = .ok (.lload 4, 2) := by decide +kernel
theorem dX12_worldComes_23 : decode cX12_worldComes 23 = .ok (.lload_n 2, 1) := by decide +kernel
theorem dX12_worldComes_24 : decode cX12_worldComes 24 = .ok (.lmul, 1) := by decide +kernel
theorem dX12_worldComes_25 : decode cX12_worldComes 25 = .ok (.aload_n 0, 1) := by decide +kernel
theorem dX12_worldComes_26 : decode cX12_worldComes 26 = .ok (.iload_n 1, 1) := by decide +kernel
theorem dX12_worldComes_27 : decode cX12_worldComes 27 = .ok (.iload 6, 2) := by decide +kernel
theorem dX12_worldComes_29 : decode cX12_worldComes 29 = .ok (.invokevirtual 394, 3) := by decide +kernel
theorem dX12_worldComes_32 : decode cX12_worldComes 32 = .ok (.i2l, 1) := by decide +kernel
theorem dX12_worldComes_33 : decode cX12_worldComes 33 = .ok (.ladd, 1) := by decide +kernel
theorem dX12_worldComes_34 : decode cX12_worldComes 34 = .ok (.lstore 4, 2) := by decide +kernel
theorem dX12_worldComes_36 : decode cX12_worldComes 36 = .ok (.iinc 6 (-1), 3) := by decide +kernel
theorem dX12_worldComes_39 : decode cX12_worldComes 39 = .ok (.goto (-23), 3) := by decide +kernel
theorem dX12_worldComes_42 : decode cX12_worldComes 42 = .ok (.lload 4, 2) := by decide +kernel
theorem dX12_worldComes_44 : decode cX12_worldComes 44 = .ok (.lreturn, 1) := by decide +kernel
theorem dX12_clears_0 : decode cX12_clears 0 = .ok (.iconst 0, 1) := by decide +kernel
theorem dX12_clears_1 : decode cX12_clears 1 = .ok (.istore_n 1, 1) := by decide +kernel
theorem dX12_clears_2 : decode cX12_clears 2 = .ok (.iload_n 1, 1) := by decide +kernel
theorem dX12_clears_3 : decode cX12_clears 3 = .ok (.ldc 119, 2) := by decide +kernel
theorem dX12_clears_5 : decode cX12_clears 5 = .ok (.if_icmp .ge 23, 3) := by decide +kernel
theorem dX12_clears_8 : decode cX12_clears 8 = .ok (.aload_n 0, 1) := by decide +kernel
theorem dX12_clears_9 : decode cX12_clears 9 = .ok (.getfield 123, 3) := by decide +kernel
theorem dX12_clears_12 : decode cX12_clears 12 = .ok (.iload_n 1, 1) := by decide +kernel
theorem dX12_clears_13 : decode cX12_clears 13 = .ok (.iconst (-1), 1) := by decide +kernel
theorem dX12_clears_14 : decode cX12_clears 14 = .ok (.iastore, 1) := by decide +kernel
theorem dX12_clears_15 : decode cX12_clears 15 = .ok (.aload_n 0, 1) := by decide +kernel
theorem dX12_clears_16 : decode cX12_clears 16 = .ok (.getfield 126, 3) := by decide +kernel
theorem dX12_clears_19 : decode cX12_clears 19 = .ok (.iload_n 1, 1) := by decide +kernel
theorem dX12_clears_20 : decode cX12_clears 20 = .ok (.iconst 0, 1) := by decide +kernel
theorem dX12_clears_21 : decode cX12_clears 21 = .ok (.iastore, 1) := by decide +kernel
theorem dX12_clears_22 : decode cX12_clears 22 = .ok (.iinc 1 1, 3) := by decide +kernel
theorem dX12_clears_25 : decode cX12_clears 25 = .ok (.goto (-23), 3) := by decide +kernel
theorem dX12_clears_28 : decode cX12_clears 28 = .ok (.return_, 1) := by decide +kernel
theorem dX12_keyAt_0 : decode cX12_keyAt 0 = .ok (.lload_n 1, 1) := by decide +kernel
theorem dX12_keyAt_1 : decode cX12_keyAt 1 = .ok (.ldc2_w 397, 3) := by decide +kernel
theorem dX12_keyAt_4 : decode cX12_keyAt 4 = .ok (.lmul, 1) := by decide +kernel
theorem dX12_keyAt_5 : decode cX12_keyAt 5 = .ok (.bipush 13, 2) := by decide +kernel
theorem dX12_keyAt_7 : decode cX12_keyAt 7 = .ok (.lushr, 1) := by decide +kernel
theorem dX12_keyAt_8 : decode cX12_keyAt 8 = .ok (.lload_n 1, 1) := by decide +kernel
theorem dX12_keyAt_9 : decode cX12_keyAt 9 = .ok (.lxor, 1) := by decide +kernel
theorem dX12_keyAt_10 : decode cX12_keyAt 10 = .ok (.ldc2_w 399, 3) := by decide +kernel
theorem dX12_keyAt_13 : decode cX12_keyAt 13 = .ok (.land, 1) := by decide +kernel
theorem dX12_keyAt_14 : decode cX12_keyAt 14 = .ok (.l2i, 1) := by decide +kernel
theorem dX12_keyAt_15 : decode cX12_keyAt 15 = .ok (.istore 4, 2) := by decide +kernel
theorem dX12_keyAt_17 : decode cX12_keyAt 17 = .ok (.aload_n 0, 1) := by decide +kernel
theorem dX12_keyAt_18 : decode cX12_keyAt 18 = .ok (.getfield 123, 3) := by decide +kernel
theorem dX12_keyAt_21 : decode cX12_keyAt 21 = .ok (.iload 4, 2) := by decide +kernel
theorem dX12_keyAt_23 : decode cX12_keyAt 23 = .ok (.iaload, 1) := by decide +kernel
theorem dX12_keyAt_24 : decode cX12_keyAt 24 = .ok (.iconst (-1), 1) := by decide +kernel
theorem dX12_keyAt_25 : decode cX12_keyAt 25 = .ok (.if_icmp .eq 27, 3) := by decide +kernel
theorem dX12_keyAt_28 : decode cX12_keyAt 28 = .ok (.aload_n 0, 1) := by decide +kernel
theorem dX12_keyAt_29 : decode cX12_keyAt 29 = .ok (.getfield 120, 3) := by decide +kernel
theorem dX12_keyAt_32 : decode cX12_keyAt 32 = .ok (.iload 4, 2) := by decide +kernel
theorem dX12_keyAt_34 : decode cX12_keyAt 34 = .ok (.laload, 1) := by decide +kernel
theorem dX12_keyAt_35 : decode cX12_keyAt 35 = .ok (.lload_n 1, 1) := by decide +kernel
theorem dX12_keyAt_36 : decode cX12_keyAt 36 = .ok (.lcmp, 1) := by decide +kernel
theorem dX12_keyAt_37 : decode cX12_keyAt 37 = .ok (.ifCond .eq 15, 3) := by decide +kernel
theorem dX12_keyAt_40 : decode cX12_keyAt 40 = .ok (.iload 4, 2) := by decide +kernel
theorem dX12_keyAt_42 : decode cX12_keyAt 42 = .ok (.iconst 1, 1) := by decide +kernel
theorem dX12_keyAt_43 : decode cX12_keyAt 43 = .ok (.iadd, 1) := by decide +kernel
theorem dX12_keyAt_44 : decode cX12_keyAt 44 = .ok (.ldc 119, 2) := by decide +kernel
theorem dX12_keyAt_46 : decode cX12_keyAt 46 = .ok (.irem, 1) := by decide +kernel
theorem dX12_keyAt_47 : decode cX12_keyAt 47 = .ok (.istore 4, 2) := by decide +kernel
theorem dX12_keyAt_49 : decode cX12_keyAt 49 = .ok (.goto (-32), 3) := by decide +kernel
theorem dX12_keyAt_52 : decode cX12_keyAt 52 = .ok (.aload_n 0, 1) := by decide +kernel
theorem dX12_keyAt_53 : decode cX12_keyAt 53 = .ok (.getfield 123, 3) := by decide +kernel
theorem dX12_keyAt_56 : decode cX12_keyAt 56 = .ok (.iload 4, 2) := by decide +kernel
theorem dX12_keyAt_58 : decode cX12_keyAt 58 = .ok (.iaload, 1) := by decide +kernel
theorem dX12_keyAt_59 : decode cX12_keyAt 59 = .ok (.iconst (-1), 1) := by decide +kernel
theorem dX12_keyAt_60 : decode cX12_keyAt 60 = .ok (.if_icmp .ne 19, 3) := by decide +kernel
theorem dX12_keyAt_63 : decode cX12_keyAt 63 = .ok (.aload_n 0, 1) := by decide +kernel
theorem dX12_keyAt_64 : decode cX12_keyAt 64 = .ok (.getfield 123, 3) := by decide +kernel
theorem dX12_keyAt_67 : decode cX12_keyAt 67 = .ok (.iload 4, 2) := by decide +kernel
theorem dX12_keyAt_69 : decode cX12_keyAt 69 = .ok (.iload_n 3, 1) := by decide +kernel
theorem dX12_keyAt_70 : decode cX12_keyAt 70 = .ok (.iastore, 1) := by decide +kernel
theorem dX12_keyAt_71 : decode cX12_keyAt 71 = .ok (.aload_n 0, 1) := by decide +kernel
theorem dX12_keyAt_72 : decode cX12_keyAt 72 = .ok (.getfield 120, 3) := by decide +kernel
theorem dX12_keyAt_75 : decode cX12_keyAt 75 = .ok (.iload 4, 2) := by decide +kernel
theorem dX12_keyAt_77 : decode cX12_keyAt 77 = .ok (.lload_n 1, 1) := by decide +kernel
theorem dX12_keyAt_78 : decode cX12_keyAt 78 = .ok (.lastore, 1) := by decide +kernel
theorem dX12_keyAt_79 : decode cX12_keyAt 79 = .ok (.iload 4, 2) := by decide +kernel
theorem dX12_keyAt_81 : decode cX12_keyAt 81 = .ok (.ireturn, 1) := by decide +kernel
theorem dX12_clashes_0 : decode cX12_clashes 0 = .ok (.aload_n 0, 1) := by decide +kernel
theorem dX12_clashes_1 : decode cX12_clashes 1 = .ok (.invokevirtual 401, 3) := by decide +kernel
theorem dX12_clashes_4 : decode cX12_clashes 4 = .ok (.iconst 0, 1) := by decide +kernel
theorem dX12_clashes_5 : decode cX12_clashes 5 = .ok (.istore_n 2, 1) := by decide +kernel
theorem dX12_clashes_6 : decode cX12_clashes 6 = .ok (.iload_n 2, 1) := by decide +kernel
theorem dX12_clashes_7 : decode cX12_clashes 7 = .ok (.aload_n 0, 1) := by decide +kernel
theorem dX12_clashes_8 : decode cX12_clashes 8 = .ok (.invokevirtual 404, 3) := by decide +kernel
theorem dX12_clashes_11 : decode cX12_clashes 11 = .ok (.if_icmp .ge 47, 3) := by decide +kernel
theorem dX12_clashes_14 : decode cX12_clashes 14 = .ok (.aload_n 0, 1) := by decide +kernel
theorem dX12_clashes_15 : decode cX12_clashes 15 = .ok (.getfield 123, 3) := by decide +kernel
theorem dX12_clashes_18 : decode cX12_clashes 18 = .ok (.aload_n 0, 1) := by decide +kernel
theorem dX12_clashes_19 : decode cX12_clashes 19 = .ok (.aload_n 0, 1) := by decide +kernel
theorem dX12_clashes_20 : decode cX12_clashes 20 = .ok (.iload_n 2, 1) := by decide +kernel
theorem dX12_clashes_21 : decode cX12_clashes 21 = .ok (.iload_n 1, 1) := by decide +kernel
theorem dX12_clashes_22 : decode cX12_clashes 22 = .ok (.i2l, 1) := by decide +kernel
theorem dX12_clashes_23 : decode cX12_clashes 23 = .ok (.invokevirtual 407, 3) := by decide +kernel
theorem dX12_clashes_26 : decode cX12_clashes 26 = .ok (.iload_n 2, 1) := by decide +kernel
theorem dX12_clashes_27 : decode cX12_clashes 27 = .ok (.invokevirtual 410, 3) := by decide +kernel
theorem dX12_clashes_30 : decode cX12_clashes 30 = .ok (.iaload, 1) := by decide +kernel
theorem dX12_clashes_31 : decode cX12_clashes 31 = .ok (.istore_n 3, 1) := by decide +kernel
theorem dX12_clashes_32 : decode cX12_clashes 32 = .ok (.iload_n 3, 1) := by decide +kernel
theorem dX12_clashes_33 : decode cX12_clashes 33 = .ok (.iload_n 2, 1) := by decide +kernel
theorem dX12_clashes_34 : decode cX12_clashes 34 = .ok (.if_icmp .ne 6, 3) := by decide +kernel
theorem dX12_clashes_37 : decode cX12_clashes 37 = .ok (.goto 15, 3) := by decide +kernel
theorem dX12_clashes_40 : decode cX12_clashes 40 = .ok (.aload_n 0, 1) := by decide +kernel
theorem dX12_clashes_41 : decode cX12_clashes 41 = .ok (.iload_n 3, 1) := by decide +kernel
theorem dX12_clashes_42 : decode cX12_clashes 42 = .ok (.putfield 414, 3) := by decide +kernel
theorem dX12_clashes_45 : decode cX12_clashes 45 = .ok (.aload_n 0, 1) := by decide +kernel
theorem dX12_clashes_46 : decode cX12_clashes 46 = .ok (.iload_n 2, 1) := by decide +kernel
theorem dX12_clashes_47 : decode cX12_clashes 47 = .ok (.putfield 417, 3) := by decide +kernel
theorem dX12_clashes_50 : decode cX12_clashes 50 = .ok (.iconst 1, 1) := by decide +kernel
theorem dX12_clashes_51 : decode cX12_clashes 51 = .ok (.ireturn, 1) := by decide +kernel
theorem dX12_clashes_52 : decode cX12_clashes 52 = .ok (.iinc 2 1, 3) := by decide +kernel
theorem dX12_clashes_55 : decode cX12_clashes 55 = .ok (.goto (-49), 3) := by decide +kernel
theorem dX12_clashes_58 : decode cX12_clashes 58 = .ok (.iconst 0, 1) := by decide +kernel
theorem dX12_clashes_59 : decode cX12_clashes 59 = .ok (.ireturn, 1) := by decide +kernel
theorem dX12_clash_0 : decode cX12_clash 0 = .ok (.iload_n 1, 1) := by decide +kernel
theorem dX12_clash_1 : decode cX12_clash 1 = .ok (.i2l, 1) := by decide +kernel
theorem dX12_clash_2 : decode cX12_clash 2 = .ok (.lconst 0, 1) := by decide +kernel
theorem dX12_clash_3 : decode cX12_clash 3 = .ok (.ldc2_w 347, 3) := by decide +kernel
theorem dX12_clash_6 : decode cX12_clash 6 = .ok (.invokestatic 332, 3) := by decide +kernel
theorem dX12_clash_9 : decode cX12_clash 9 = .ok (.ifCond .ne 5, 3) := by decide +kernel
theorem dX12_clash_12 : decode cX12_clash 12 = .ok (.iconst (-1), 1) := by decide +kernel
theorem dX12_clash_13 : decode cX12_clash 13 = .ok (.ireturn, 1) := by decide +kernel
theorem dX12_clash_14 : decode cX12_clash 14 = .ok (.aload_n 0, 1) := by decide +kernel
theorem dX12_clash_15 : decode cX12_clash 15 = .ok (.iload_n 1, 1) := by decide +kernel
theorem dX12_clash_16 : decode cX12_clash 16 = .ok (.invokevirtual 420, 3) := by decide +kernel
theorem dX12_clash_19 : decode cX12_clash 19 = .ok (.ifCond .ne 6, 3) := by decide +kernel
theorem dX12_clash_22 : decode cX12_clash 22 = .ok (.bipush (-2), 2) := by decide +kernel
theorem dX12_clash_24 : decode cX12_clash 24 = .ok (.ireturn, 1) := by decide +kernel
theorem dX12_clash_25 : decode cX12_clash 25 = .ok (.iload_n 2, 1) := by decide +kernel
theorem dX12_clash_26 : decode cX12_clash 26 = .ok (.ifCond .eq 10, 3) := by decide +kernel
theorem dX12_clash_29 : decode cX12_clash 29 = .ok (.aload_n 0, 1) := by decide +kernel
theorem dX12_clash_30 : decode cX12_clash 30 = .ok (.getfield 417, 3) := by decide +kernel
theorem dX12_clash_33 : decode cX12_clash 33 = .ok (.goto 7, 3) := by decide +kernel
theorem dX12_clash_36 : decode cX12_clash 36 = .ok (.aload_n 0, 1) := by decide +kernel
theorem dX12_clash_37 : decode cX12_clash 37 = .ok (.getfield 414, 3) := by decide +kernel
theorem dX12_clash_40 : decode cX12_clash 40 = .ok (.ireturn, 1) := by decide +kernel
theorem dX12_world_0 : decode cX12_world 0 = .ok (.iload_n 2, 1) := by decide +kernel
theorem dX12_world_1 : decode cX12_world 1 = .ok (.iconst (-1), 1) := by decide +kernel
theorem dX12_world_2 : decode cX12_world 2 = .ok (.if_icmp .ne 8, 3) := by decide +kernel
theorem dX12_world_5 : decode cX12_world 5 = .ok (.aload_n 0, 1) := by decide +kernel
theorem dX12_world_6 : decode cX12_world 6 = .ok (.invokevirtual 404, 3) := by decide +kernel
theorem dX12_world_9 : decode cX12_world 9 = .ok (.ireturn, 1) := by decide +kernel
theorem dX12_world_10 : decode cX12_world 10 = .ok (.iload_n 1, 1) := by decide +kernel
theorem dX12_world_11 : decode cX12_world 11 = .ok (.i2l, 1) := by decide +kernel
theorem dX12_world_12 : decode cX12_world 12 = .ok (.lconst 0, 1) := by decide +kernel
theorem dX12_world_13 : decode cX12_world 13 = .ok (.aload_n 0, 1) := by decide +kernel
theorem dX12_world_14 : decode cX12_world 14 = .ok (.invokevirtual 404, 3) := by decide +kernel
theorem dX12_world_17 : decode cX12_world 17 = .ok (.iconst 1, 1) := by decide +kernel
theorem dX12_world_18 : decode cX12_world 18 = .ok (.isub, 1) := by decide +kernel
theorem dX12_world_19 : decode cX12_world 19 = .ok (.i2l, 1) := by decide +kernel
theorem dX12_world_20 : decode cX12_world 20 = .ok (.invokestatic 332, 3) := by decide +kernel
theorem dX12_world_23 : decode cX12_world 23 = .ok (.ifCond .eq 33, 3) := by decide +kernel
theorem dX12_world_26 : decode cX12_world 26 = .ok (.iload_n 2, 1) := by decide +kernel
theorem dX12_world_27 : decode cX12_world 27 = .ok (.i2l, 1) := by decide +kernel
theorem dX12_world_28 : decode cX12_world 28 = .ok (.lconst 0, 1) := by decide +kernel
theorem dX12_world_29 : decode cX12_world 29 = .ok (.aload_n 0, 1) := by decide +kernel
theorem dX12_world_30 : decode cX12_world 30 = .ok (.getfield 73, 3) := by decide +kernel
theorem dX12_world_33 : decode cX12_world 33 = .ok (.aload_n 0, 1) := by decide +kernel
theorem dX12_world_34 : decode cX12_world 34 = .ok (.getfield 243, 3) := by decide +kernel
theorem dX12_world_37 : decode cX12_world 37 = .ok (.iaload, 1) := by decide +kernel
theorem dX12_world_38 : decode cX12_world 38 = .ok (.iconst 1, 1) := by decide +kernel
theorem dX12_world_39 : decode cX12_world 39 = .ok (.isub, 1) := by decide +kernel
theorem dX12_world_40 : decode cX12_world 40 = .ok (.i2l, 1) := by decide +kernel
theorem dX12_world_41 : decode cX12_world 41 = .ok (.invokestatic 332, 3) := by decide +kernel
theorem dX12_world_44 : decode cX12_world 44 = .ok (.ifCond .eq 12, 3) := by decide +kernel
theorem dX12_world_47 : decode cX12_world 47 = .ok (.aload_n 0, 1) := by decide +kernel
theorem dX12_world_48 : decode cX12_world 48 = .ok (.iload_n 1, 1) := by decide +kernel
theorem dX12_world_49 : decode cX12_world 49 = .ok (.iload_n 2, 1) := by decide +kernel
theorem dX12_world_50 : decode cX12_world 50 = .ok (.invokevirtual 394, 3) := by decide +kernel
theorem dX12_world_53 : decode cX12_world 53 = .ok (.goto 4, 3) := by decide +kernel
theorem dX12_world_56 : decode cX12_world 56 = .ok (.iconst (-1), 1) := by decide +kernel
theorem dX12_world_57 : decode cX12_world 57 = .ok (.ireturn, 1) := by decide +kernel
theorem dX12_once_0 : decode cX12_once 0 = .ok (.iconst 0, 1) := by decide +kernel
theorem dX12_once_1 : decode cX12_once 1 = .ok (.istore_n 1, 1) := by decide +kernel
theorem dX12_once_2 : decode cX12_once 2 = .ok (.aload_n 0, 1) := by decide +kernel
theorem dX12_once_3 : decode cX12_once 3 = .ok (.iload_n 1, 1) := by decide +kernel
theorem dX12_once_4 : decode cX12_once 4 = .ok (.invokevirtual 420, 3) := by decide +kernel
theorem dX12_once_7 : decode cX12_once 7 = .ok (.ifCond .eq 9, 3) := by decide +kernel
theorem dX12_once_10 : decode cX12_once 10 = .ok (.iinc 1 1, 3) := by decide +kernel
theorem dX12_once_13 : decode cX12_once 13 = .ok (.goto (-11), 3) := by decide +kernel
theorem dX12_once_16 : decode cX12_once 16 = .ok (.iload_n 1, 1) := by decide +kernel
theorem dX12_once_17 : decode cX12_once 17 = .ok (.ireturn, 1) := by decide +kernel
theorem dX12_fullPlaces_0 : decode cX12_fullPlaces 0 = .ok (.iconst 0, 1) := by decide +kernel
theorem dX12_fullPlaces_1 : decode cX12_fullPlaces 1 = .ok (.istore_n 2, 1) := by decide +kernel
theorem dX12_fullPlaces_2 : decode cX12_fullPlaces 2 = .ok (.iconst 0, 1) := by decide +kernel
theorem dX12_fullPlaces_3 : decode cX12_fullPlaces 3 = .ok (.istore_n 3, 1) := by decide +kernel
theorem dX12_fullPlaces_4 : decode cX12_fullPlaces 4 = .ok (.iload_n 3, 1) := by decide +kernel
theorem dX12_fullPlaces_5 : decode cX12_fullPlaces 5 = .ok (.aload_n 0, 1) := by decide +kernel
theorem dX12_fullPlaces_6 : decode cX12_fullPlaces 6 = .ok (.getfield 73, 3) := by decide +kernel
theorem dX12_fullPlaces_9 : decode cX12_fullPlaces 9 = .ok (.aload_n 0, 1) := by decide +kernel
theorem dX12_fullPlaces_10 : decode cX12_fullPlaces 10 = .ok (.getfield 243, 3) := by decide +kernel
theorem dX12_fullPlaces_13 : decode cX12_fullPlaces 13 = .ok (.iaload, 1) := by decide +kernel
theorem dX12_fullPlaces_14 : decode cX12_fullPlaces 14 = .ok (.if_icmp .ge 21, 3) := by decide +kernel
theorem dX12_fullPlaces_17 : decode cX12_fullPlaces 17 = .ok (.aload_n 0, 1) := by decide +kernel
theorem dX12_fullPlaces_18 : decode cX12_fullPlaces 18 = .ok (.iload_n 1, 1) := by decide +kernel
theorem dX12_fullPlaces_19 : decode cX12_fullPlaces 19 = .ok (.iload_n 3, 1) := by decide +kernel
theorem dX12_fullPlaces_20 : decode cX12_fullPlaces 20 = .ok (.invokevirtual 394, 3) := by decide +kernel
theorem dX12_fullPlaces_23 : decode cX12_fullPlaces 23 = .ok (.ifCond .eq 6, 3) := by decide +kernel
theorem dX12_fullPlaces_26 : decode cX12_fullPlaces 26 = .ok (.iinc 2 1, 3) := by decide +kernel
theorem dX12_fullPlaces_29 : decode cX12_fullPlaces 29 = .ok (.iinc 3 1, 3) := by decide +kernel
theorem dX12_fullPlaces_32 : decode cX12_fullPlaces 32 = .ok (.goto (-28), 3) := by decide +kernel
theorem dX12_fullPlaces_35 : decode cX12_fullPlaces 35 = .ok (.iload_n 2, 1) := by decide +kernel
theorem dX12_fullPlaces_36 : decode cX12_fullPlaces 36 = .ok (.ireturn, 1) := by decide +kernel
theorem dX12_few_0 : decode cX12_few 0 = .ok (.iload_n 1, 1) := by decide +kernel
theorem dX12_few_1 : decode cX12_few 1 = .ok (.i2l, 1) := by decide +kernel
theorem dX12_few_2 : decode cX12_few 2 = .ok (.lconst 0, 1) := by decide +kernel
theorem dX12_few_3 : decode cX12_few 3 = .ok (.ldc2_w 423, 3) := by decide +kernel
theorem dX12_few_6 : decode cX12_few 6 = .ok (.invokestatic 332, 3) := by decide +kernel
theorem dX12_few_9 : decode cX12_few 9 = .ok (.ifCond .ne 5, 3) := by decide +kernel
theorem dX12_few_12 : decode cX12_few 12 = .ok (.iconst (-1), 1) := by decide +kernel
theorem dX12_few_13 : decode cX12_few 13 = .ok (.ireturn, 1) := by decide +kernel
theorem dX12_few_14 : decode cX12_few 14 = .ok (.iconst 0, 1) := by decide +kernel
theorem dX12_few_15 : decode cX12_few 15 = .ok (.istore_n 2, 1) := by decide +kernel
theorem dX12_few_16 : decode cX12_few 16 = .ok (.iload_n 2, 1) := by decide +kernel
theorem dX12_few_17 : decode cX12_few 17 = .ok (.aload_n 0, 1) := by decide +kernel
theorem dX12_few_18 : decode cX12_few 18 = .ok (.invokevirtual 404, 3) := by decide +kernel
theorem dX12_few_21 : decode cX12_few 21 = .ok (.if_icmp .ge 29, 3) := by decide +kernel
theorem dX12_few_24 : decode cX12_few 24 = .ok (.aload_n 0, 1) := by decide +kernel
theorem dX12_few_25 : decode cX12_few 25 = .ok (.getfield 129, 3) := by decide +kernel
theorem dX12_few_28 : decode cX12_few 28 = .ok (.iload_n 2, 1) := by decide +kernel
theorem dX12_few_29 : decode cX12_few 29 = .ok (.aload_n 0, 1) := by decide +kernel
theorem dX12_few_30 : decode cX12_few 30 = .ok (.iload_n 2, 1) := by decide +kernel
theorem dX12_few_31 : decode cX12_few 31 = .ok (.invokevirtual 425, 3) := by decide +kernel
theorem dX12_few_34 : decode cX12_few 34 = .ok (.iload_n 1, 1) := by decide +kernel
theorem dX12_few_35 : decode cX12_few 35 = .ok (.if_icmp .gt 7, 3) := by decide +kernel
theorem dX12_few_38 : decode cX12_few 38 = .ok (.iconst 0, 1) := by decide +kernel
theorem dX12_few_39 : decode cX12_few 39 = .ok (.goto 4, 3) := by decide +kernel
theorem dX12_few_42 : decode cX12_few 42 = .ok (.iconst (-1), 1) := by decide +kernel
theorem dX12_few_43 : decode cX12_few 43 = .ok (.iastore, 1) := by decide +kernel
theorem dX12_few_44 : decode cX12_few 44 = .ok (.iinc 2 1, 3) := by decide +kernel
theorem dX12_few_47 : decode cX12_few 47 = .ok (.goto (-31), 3) := by decide +kernel
theorem dX12_few_50 : decode cX12_few 50 = .ok (.iconst 1, 1) := by decide +kernel
theorem dX12_few_51 : decode cX12_few 51 = .ok (.istore_n 2, 1) := by decide +kernel
theorem dX12_few_52 : decode cX12_few 52 = .ok (.iload_n 2, 1) := by decide +kernel
theorem dX12_few_53 : decode cX12_few 53 = .ok (.bipush 10, 2) := by decide +kernel
theorem dX12_few_55 : decode cX12_few 55 = .ok (.if_icmp .ge 112, 3) := by decide +kernel
theorem dX12_few_58 : decode cX12_few 58 = .ok (.aload_n 0, 1) := by decide +kernel
theorem dX12_few_59 : decode cX12_few 59 = .ok (.invokevirtual 401, 3) := by decide +kernel
theorem dX12_few_62 : decode cX12_few 62 = .ok (.iconst 0, 1) := by decide +kernel
theorem dX12_few_63 : decode cX12_few 63 = .ok (.istore_n 3, 1) := by decide +kernel
theorem dX12_few_64 : decode cX12_few 64 = .ok (.iconst 0, 1) := by decide +kernel
theorem dX12_few_65 : decode cX12_few 65 = .ok (.istore 4, 2) := by decide +kernel
theorem dX12_few_67 : decode cX12_few 67 = .ok (.iload 4, 2) := by decide +kernel
theorem dX12_few_69 : decode cX12_few 69 = .ok (.aload_n 0, 1) := by decide +kernel
theorem dX12_few_70 : decode cX12_few 70 = .ok (.invokevirtual 404, 3) := by decide +kernel
theorem dX12_few_73 : decode cX12_few 73 = .ok (.if_icmp .ge 82, 3) := by decide +kernel
theorem dX12_few_76 : decode cX12_few 76 = .ok (.aload_n 0, 1) := by decide +kernel
theorem dX12_few_77 : decode cX12_few 77 = .ok (.getfield 129, 3) := by decide +kernel
theorem dX12_few_80 : decode cX12_few 80 = .ok (.iload 4, 2) := by decide +kernel
theorem dX12_few_82 : decode cX12_few 82 = .ok (.iaload, 1) := by decide +kernel
theorem dX12_few_83 : decode cX12_few 83 = .ok (.ifCond .ge 6, 3) := by decide +kernel
theorem dX12_few_86 : decode cX12_few 86 = .ok (.goto 63, 3) := by decide +kernel
theorem dX12_few_89 : decode cX12_few 89 = .ok (.aload_n 0, 1) := by decide +kernel
theorem dX12_few_90 : decode cX12_few 90 = .ok (.getfield 123, 3) := by decide +kernel
theorem dX12_few_93 : decode cX12_few 93 = .ok (.aload_n 0, 1) := by decide +kernel
theorem dX12_few_94 : decode cX12_few 94 = .ok (.ldc2_w 428, 3) := by decide +kernel
theorem dX12_few_97 : decode cX12_few 97 = .ok (.aload_n 0, 1) := by decide +kernel
theorem dX12_few_98 : decode cX12_few 98 = .ok (.getfield 129, 3) := by decide +kernel
theorem dX12_few_101 : decode cX12_few 101 = .ok (.iload 4, 2) := by decide +kernel
theorem dX12_few_103 : decode cX12_few 103 = .ok (.iaload, 1) := by decide +kernel
theorem dX12_few_104 : decode cX12_few 104 = .ok (.i2l, 1) := by decide +kernel
theorem dX12_few_105 : decode cX12_few 105 = .ok (.lmul, 1) := by decide +kernel
theorem dX12_few_106 : decode cX12_few 106 = .ok (.aload_n 0, 1) := by decide +kernel
theorem dX12_few_107 : decode cX12_few 107 = .ok (.iload 4, 2) := by decide +kernel
theorem dX12_few_109 : decode cX12_few 109 = .ok (.iload_n 2, 1) := by decide +kernel
theorem dX12_few_110 : decode cX12_few 110 = .ok (.i2l, 1) := by decide +kernel
theorem dX12_few_111 : decode cX12_few 111 = .ok (.invokevirtual 407, 3) := by decide +kernel
theorem dX12_few_114 : decode cX12_few 114 = .ok (.ladd, 1) := by decide +kernel
theorem dX12_few_115 : decode cX12_few 115 = .ok (.iload 4, 2) := by decide +kernel
theorem dX12_few_117 : decode cX12_few 117 = .ok (.invokevirtual 410, 3) := by decide +kernel
theorem dX12_few_120 : decode cX12_few 120 = .ok (.iaload, 1) := by decide +kernel
theorem dX12_few_121 : decode cX12_few 121 = .ok (.istore 5, 2) := by decide +kernel
theorem dX12_few_123 : decode cX12_few 123 = .ok (.iload_n 3, 1) := by decide +kernel
theorem dX12_few_124 : decode cX12_few 124 = .ok (.ifCond .ne 10, 3) := by decide +kernel
theorem dX12_few_127 : decode cX12_few 127 = .ok (.iload 5, 2) := by decide +kernel
theorem dX12_few_129 : decode cX12_few 129 = .ok (.iload 4, 2) := by decide +kernel
theorem dX12_few_131 : decode cX12_few 131 = .ok (.if_icmp .eq 7, 3) := by decide +kernel
theorem dX12_few_134 : decode cX12_few 134 = .ok (.iconst 1, 1) := by decide +kernel
theorem dX12_few_135 : decode cX12_few 135 = .ok (.goto 4, 3) := by decide +kernel
theorem dX12_few_138 : decode cX12_few 138 = .ok (.iconst 0, 1) := by decide +kernel
theorem dX12_few_139 : decode cX12_few 139 = .ok (.istore_n 3, 1) := by decide +kernel
theorem dX12_few_140 : decode cX12_few 140 = .ok (.aload_n 0, 1) := by decide +kernel
theorem dX12_few_141 : decode cX12_few 141 = .ok (.getfield 129, 3) := by decide +kernel
theorem dX12_few_144 : decode cX12_few 144 = .ok (.iload 4, 2) := by decide +kernel
theorem dX12_few_146 : decode cX12_few 146 = .ok (.iload 5, 2) := by decide +kernel
theorem dX12_few_148 : decode cX12_few 148 = .ok (.iastore, 1) := by decide +kernel
theorem dX12_few_149 : decode cX12_few 149 = .ok (.iinc 4 1, 3) := by decide +kernel
theorem dX12_few_152 : decode cX12_few 152 = .ok (.goto (-85), 3) := by decide +kernel
theorem dX12_few_155 : decode cX12_few 155 = .ok (.iload_n 3, 1) := by decide +kernel
theorem dX12_few_156 : decode cX12_few 156 = .ok (.ifCond .ne 5, 3) := by decide +kernel
theorem dX12_few_159 : decode cX12_few 159 = .ok (.iload_n 2, 1) := by decide +kernel
theorem dX12_few_160 : decode cX12_few 160 = .ok (.ireturn, 1) := by decide +kernel
theorem dX12_few_161 : decode cX12_few 161 = .ok (.iinc 2 1, 3) := by decide +kernel
theorem dX12_few_164 : decode cX12_few 164 = .ok (.goto (-112), 3) := by decide +kernel
theorem dX12_few_167 : decode cX12_few 167 = .ok (.bipush (-2), 2) := by decide +kernel
theorem dX12_few_169 : decode cX12_few 169 = .ok (.ireturn, 1) := by decide +kernel
theorem dX12_tell__0 : decode cX12_tell_ 0 = .ok (.aload_n 0, 1) := by decide +kernel
theorem dX12_tell__1 : decode cX12_tell_ 1 = .ok (.getfield 265, 3) := by decide +kernel
theorem dX12_tell__4 : decode cX12_tell_ 4 = .ok (.bipush 20, 2) := by decide +kernel
theorem dX12_tell__6 : decode cX12_tell_ 6 = .ok (.if_icmp .eq 30, 3) := by decide +kernel
theorem dX12_tell__9 : decode cX12_tell_ 9 = .ok (.iload_n 1, 1) := by decide +kernel
theorem dX12_tell__10 : decode cX12_tell_ 10 = .ok (.i2l, 1) := by decide +kernel
theorem dX12_tell__11 : decode cX12_tell_ 11 = .ok (.ldc2_w 430, 3) := by decide +kernel
theorem dX12_tell__14 : decode cX12_tell_ 14 = .ok (.ldc2_w 432, 3) := by decide +kernel
theorem dX12_tell__17 : decode cX12_tell_ 17 = .ok (.invokestatic 332, 3) := by decide +kernel
theorem dX12_tell__20 : decode cX12_tell_ 20 = .ok (.ifCond .eq 16, 3) := by decide +kernel
theorem dX12_tell__23 : decode cX12_tell_ 23 = .ok (.lload_n 2, 1) := by decide +kernel
theorem dX12_tell__24 : decode cX12_tell_ 24 = .ok (.ldc2_w 434, 3) := by decide +kernel
theorem dX12_tell__27 : decode cX12_tell_ 27 = .ok (.ldc2_w 436, 3) := by decide +kernel
theorem dX12_tell__30 : decode cX12_tell_ 30 = .ok (.invokestatic 332, 3) := by decide +kernel
theorem dX12_tell__33 : decode cX12_tell_ 33 = .ok (.ifCond .ne 5, 3) := by decide +kernel
theorem dX12_tell__36 : decode cX12_tell_ 36 = .ok (.iconst (-1), 1) := by decide +kernel
theorem dX12_tell__37 : decode cX12_tell_ 37 = .ok (.ireturn, 1) := by decide +kernel
theorem dX12_tell__38 : decode cX12_tell_ 38 = .ok (.aload_n 0, 1) := by decide +kernel
theorem dX12_tell__39 : decode cX12_tell_ 39 = .ok (.getfield 132, 3) := by decide +kernel
theorem dX12_tell__42 : decode cX12_tell_ 42 = .ok (.aload_n 0, 1) := by decide +kernel
theorem dX12_tell__43 : decode cX12_tell_ 43 = .ok (.getfield 265, 3) := by decide +kernel
theorem dX12_tell__46 : decode cX12_tell_ 46 = .ok (.iload_n 1, 1) := by decide +kernel
theorem dX12_tell__47 : decode cX12_tell_ 47 = .ok (.iastore, 1) := by decide +kernel
theorem dX12_tell__48 : decode cX12_tell_ 48 = .ok (.aload_n 0, 1) := by decide +kernel
theorem dX12_tell__49 : decode cX12_tell_ 49 = .ok (.getfield 135, 3) := by decide +kernel
theorem dX12_tell__52 : decode cX12_tell_ 52 = .ok (.aload_n 0, 1) := by decide +kernel
theorem dX12_tell__53 : decode cX12_tell_ 53 = .ok (.getfield 265, 3) := by decide +kernel
theorem dX12_tell__56 : decode cX12_tell_ 56 = .ok (.lload_n 2, 1) := by decide +kernel
theorem dX12_tell__57 : decode cX12_tell_ 57 = .ok (.lastore, 1) := by decide +kernel
theorem dX12_tell__58 : decode cX12_tell_ 58 = .ok (.aload_n 0, 1) := by decide +kernel
theorem dX12_tell__59 : decode cX12_tell_ 59 = .ok (.dup, 1) := by decide +kernel
theorem dX12_tell__60 : decode cX12_tell_ 60 = .ok (.getfield 265, 3) := by decide +kernel
theorem dX12_tell__63 : decode cX12_tell_ 63 = .ok (.iconst 1, 1) := by decide +kernel
theorem dX12_tell__64 : decode cX12_tell_ 64 = .ok (.iadd, 1) := by decide +kernel
theorem dX12_tell__65 : decode cX12_tell_ 65 = .ok (.putfield 265, 3) := by decide +kernel
theorem dX12_tell__68 : decode cX12_tell_ 68 = .ok (.aload_n 0, 1) := by decide +kernel
theorem dX12_tell__69 : decode cX12_tell_ 69 = .ok (.getfield 265, 3) := by decide +kernel
theorem dX12_tell__72 : decode cX12_tell_ 72 = .ok (.iconst 1, 1) := by decide +kernel
theorem dX12_tell__73 : decode cX12_tell_ 73 = .ok (.isub, 1) := by decide +kernel
theorem dX12_tell__74 : decode cX12_tell_ 74 = .ok (.ireturn, 1) := by decide +kernel
theorem dX12_forget_0 : decode cX12_forget 0 = .ok (.aload_n 0, 1) := by decide +kernel
theorem dX12_forget_1 : decode cX12_forget 1 = .ok (.getfield 265, 3) := by decide +kernel
theorem dX12_forget_4 : decode cX12_forget 4 = .ok (.istore_n 1, 1) := by decide +kernel
theorem dX12_forget_5 : decode cX12_forget 5 = .ok (.aload_n 0, 1) := by decide +kernel
theorem dX12_forget_6 : decode cX12_forget 6 = .ok (.iconst 0, 1) := by decide +kernel
theorem dX12_forget_7 : decode cX12_forget 7 = .ok (.putfield 265, 3) := by decide +kernel
theorem dX12_forget_10 : decode cX12_forget 10 = .ok (.iload_n 1, 1) := by decide +kernel
theorem dX12_forget_11 : decode cX12_forget 11 = .ok (.ireturn, 1) := by decide +kernel
theorem dX12_isRight_0 : decode cX12_isRight 0 = .ok (.aload_n 0, 1) := by decide +kernel
theorem dX12_isRight_1 : decode cX12_isRight 1 = .ok (.iload_n 1, 1) := by decide +kernel
theorem dX12_isRight_2 : decode cX12_isRight 2 = .ok (.aload_n 0, 1) := by decide +kernel
theorem dX12_isRight_3 : decode cX12_isRight 3 = .ok (.getfield 132, 3) := by decide +kernel
theorem dX12_isRight_6 : decode cX12_isRight 6 = .ok (.iload_n 2, 1) := by decide +kernel
theorem dX12_isRight_7 : decode cX12_isRight 7 = .ok (.iaload, 1) := by decide +kernel
theorem dX12_isRight_8 : decode cX12_isRight 8 = .ok (.i2l, 1) := by decide +kernel
theorem dX12_isRight_9 : decode cX12_isRight 9 = .ok (.invokevirtual 407, 3) := by decide +kernel
theorem dX12_isRight_12 : decode cX12_isRight 12 = .ok (.aload_n 0, 1) := by decide +kernel
theorem dX12_isRight_13 : decode cX12_isRight 13 = .ok (.getfield 135, 3) := by decide +kernel
theorem dX12_isRight_16 : decode cX12_isRight 16 = .ok (.iload_n 2, 1) := by decide +kernel
theorem dX12_isRight_17 : decode cX12_isRight 17 = .ok (.laload, 1) := by decide +kernel
theorem dX12_isRight_18 : decode cX12_isRight 18 = .ok (.lcmp, 1) := by decide +kernel
theorem dX12_isRight_19 : decode cX12_isRight 19 = .ok (.ifCond .ne 7, 3) := by decide +kernel
theorem dX12_isRight_22 : decode cX12_isRight 22 = .ok (.iconst 1, 1) := by decide +kernel
theorem dX12_isRight_23 : decode cX12_isRight 23 = .ok (.goto 4, 3) := by decide +kernel
theorem dX12_isRight_26 : decode cX12_isRight 26 = .ok (.iconst 0, 1) := by decide +kernel
theorem dX12_isRight_27 : decode cX12_isRight 27 = .ok (.ireturn, 1) := by decide +kernel
theorem dX12_isFit_0 : decode cX12_isFit 0 = .ok (.aload_n 0, 1) := by decide +kernel
theorem dX12_isFit_1 : decode cX12_isFit 1 = .ok (.iload_n 1, 1) := by decide +kernel
theorem dX12_isFit_2 : decode cX12_isFit 2 = .ok (.invokevirtual 425, 3) := by decide +kernel
theorem dX12_isFit_5 : decode cX12_isFit 5 = .ok (.iload 4, 2) := by decide +kernel
theorem dX12_isFit_7 : decode cX12_isFit 7 = .ok (.if_icmp .le 5, 3) := by decide +kernel
theorem dX12_isFit_10 : decode cX12_isFit 10 = .ok (.iconst 0, 1) := by decide +kernel
theorem dX12_isFit_11 : decode cX12_isFit 11 = .ok (.ireturn, 1) := by decide +kernel
theorem dX12_isFit_12 : decode cX12_isFit 12 = .ok (.iconst 0, 1) := by decide +kernel
theorem dX12_isFit_13 : decode cX12_isFit 13 = .ok (.istore 5, 2) := by decide +kernel
theorem dX12_isFit_15 : decode cX12_isFit 15 = .ok (.iconst 0, 1) := by decide +kernel
theorem dX12_isFit_16 : decode cX12_isFit 16 = .ok (.istore 6, 2) := by decide +kernel
theorem dX12_isFit_18 : decode cX12_isFit 18 = .ok (.iload 6, 2) := by decide +kernel
theorem dX12_isFit_20 : decode cX12_isFit 20 = .ok (.iload_n 2, 1) := by decide +kernel
theorem dX12_isFit_21 : decode cX12_isFit 21 = .ok (.if_icmp .ge 22, 3) := by decide +kernel
theorem dX12_isFit_24 : decode cX12_isFit 24 = .ok (.aload_n 0, 1) := by decide +kernel
theorem dX12_isFit_25 : decode cX12_isFit 25 = .ok (.iload_n 1, 1) := by decide +kernel
theorem dX12_isFit_26 : decode cX12_isFit 26 = .ok (.iload 6, 2) := by decide +kernel
theorem dX12_isFit_28 : decode cX12_isFit 28 = .ok (.invokevirtual 438, 3) := by decide +kernel
theorem dX12_isFit_31 : decode cX12_isFit 31 = .ok (.ifCond .ne 6, 3) := by decide +kernel
theorem dX12_isFit_34 : decode cX12_isFit 34 = .ok (.iinc 5 1, 3) := by decide +kernel
theorem dX12_isFit_37 : decode cX12_isFit 37 = .ok (.iinc 6 1, 3) := by decide +kernel
theorem dX12_isFit_40 : decode cX12_isFit 40 = .ok (.goto (-22), 3) := by decide +kernel
theorem dX12_isFit_43 : decode cX12_isFit 43 = .ok (.iload 5, 2) := by decide +kernel
theorem dX12_isFit_45 : decode cX12_isFit 45 = .ok (.iload_n 3, 1) := by decide +kernel
theorem dX12_isFit_46 : decode cX12_isFit 46 = .ok (.if_icmp .gt 7, 3) := by decide +kernel
theorem dX12_isFit_49 : decode cX12_isFit 49 = .ok (.iconst 1, 1) := by decide +kernel
theorem dX12_isFit_50 : decode cX12_isFit 50 = .ok (.goto 4, 3) := by decide +kernel
theorem dX12_isFit_53 : decode cX12_isFit 53 = .ok (.iconst 0, 1) := by decide +kernel
theorem dX12_isFit_54 : decode cX12_isFit 54 = .ok (.ireturn, 1) := by decide +kernel
theorem dX12_isAsked_0 : decode cX12_isAsked 0 = .ok (.iload_n 1, 1) := by decide +kernel
theorem dX12_isAsked_1 : decode cX12_isAsked 1 = .ok (.i2l, 1) := by decide +kernel
theorem dX12_isAsked_2 : decode cX12_isAsked 2 = .ok (.lconst 0, 1) := by decide +kernel
theorem dX12_isAsked_3 : decode cX12_isAsked 3 = .ok (.aload_n 0, 1) := by decide +kernel
theorem dX12_isAsked_4 : decode cX12_isAsked 4 = .ok (.getfield 265, 3) := by decide +kernel
theorem dX12_isAsked_7 : decode cX12_isAsked 7 = .ok (.i2l, 1) := by decide +kernel
theorem dX12_isAsked_8 : decode cX12_isAsked 8 = .ok (.invokestatic 332, 3) := by decide +kernel
theorem dX12_isAsked_11 : decode cX12_isAsked 11 = .ok (.ifCond .eq 31, 3) := by decide +kernel
theorem dX12_isAsked_14 : decode cX12_isAsked 14 = .ok (.iload_n 2, 1) := by decide +kernel
theorem dX12_isAsked_15 : decode cX12_isAsked 15 = .ok (.i2l, 1) := by decide +kernel
theorem dX12_isAsked_16 : decode cX12_isAsked 16 = .ok (.lconst 0, 1) := by decide +kernel
theorem dX12_isAsked_17 : decode cX12_isAsked 17 = .ok (.ldc2_w 442, 3) := by decide +kernel
theorem dX12_isAsked_20 : decode cX12_isAsked 20 = .ok (.invokestatic 332, 3) := by decide +kernel
theorem dX12_isAsked_23 : decode cX12_isAsked 23 = .ok (.ifCond .eq 19, 3) := by decide +kernel
theorem dX12_isAsked_26 : decode cX12_isAsked 26 = .ok (.iload_n 3, 1) := by decide +kernel
theorem dX12_isAsked_27 : decode cX12_isAsked 27 = .ok (.i2l, 1) := by decide +kernel
theorem dX12_isAsked_28 : decode cX12_isAsked 28 = .ok (.lconst 0, 1) := by decide +kernel
theorem dX12_isAsked_29 : decode cX12_isAsked 29 = .ok (.ldc2_w 423, 3) := by decide +kernel
theorem dX12_isAsked_32 : decode cX12_isAsked 32 = .ok (.invokestatic 332, 3) := by decide +kernel
theorem dX12_isAsked_35 : decode cX12_isAsked 35 = .ok (.ifCond .eq 7, 3) := by decide +kernel
theorem dX12_isAsked_38 : decode cX12_isAsked 38 = .ok (.iconst 1, 1) := by decide +kernel
theorem dX12_isAsked_39 : decode cX12_isAsked 39 = .ok (.goto 4, 3) := by decide +kernel
theorem dX12_isAsked_42 : decode cX12_isAsked 42 = .ok (.iconst 0, 1) := by decide +kernel
theorem dX12_isAsked_43 : decode cX12_isAsked 43 = .ok (.ireturn, 1) := by decide +kernel
theorem dX12_fillsFits_0 : decode cX12_fillsFits 0 = .ok (.iconst 0, 1) := by decide +kernel
theorem dX12_fillsFits_1 : decode cX12_fillsFits 1 = .ok (.istore 4, 2) := by decide +kernel
theorem dX12_fillsFits_3 : decode cX12_fillsFits 3 = .ok (.iconst 0, 1) := by decide +kernel
theorem dX12_fillsFits_4 : decode cX12_fillsFits 4 = .ok (.istore 5, 2) := by decide +kernel
theorem dX12_fillsFits_6 : decode cX12_fillsFits 6 = .ok (.iload 5, 2) := by decide +kernel
theorem dX12_fillsFits_8 : decode cX12_fillsFits 8 = .ok (.aload_n 0, 1) := by decide +kernel
theorem dX12_fillsFits_9 : decode cX12_fillsFits 9 = .ok (.invokevirtual 404, 3) := by decide +kernel
theorem dX12_fillsFits_12 : decode cX12_fillsFits 12 = .ok (.if_icmp .ge 38, 3) := by decide +kernel
theorem dX12_fillsFits_15 : decode cX12_fillsFits 15 = .ok (.aload_n 0, 1) := by decide +kernel
theorem dX12_fillsFits_16 : decode cX12_fillsFits 16 = .ok (.getfield 138, 3) := by decide +kernel
theorem dX12_fillsFits_19 : decode cX12_fillsFits 19 = .ok (.iload 5, 2) := by decide +kernel
theorem dX12_fillsFits_21 : decode cX12_fillsFits 21 = .ok (.aload_n 0, 1) := by decide +kernel
theorem dX12_fillsFits_22 : decode cX12_fillsFits 22 = .ok (.iload 5, 2) := by decide +kernel
theorem dX12_fillsFits_24 : decode cX12_fillsFits 24 = .ok (.iload_n 1, 1) := by decide +kernel
theorem dX12_fillsFits_25 : decode cX12_fillsFits 25 = .ok (.iload_n 2, 1) := by decide +kernel
theorem dX12_fillsFits_26 : decode cX12_fillsFits 26 = .ok (.iload_n 3, 1) := by decide +kernel
theorem dX12_fillsFits_27 : decode cX12_fillsFits 27 = .ok (.invokevirtual 444, 3) := by decide +kernel
theorem dX12_fillsFits_30 : decode cX12_fillsFits 30 = .ok (.bastore, 1) := by decide +kernel
theorem dX12_fillsFits_31 : decode cX12_fillsFits 31 = .ok (.aload_n 0, 1) := by decide +kernel
theorem dX12_fillsFits_32 : decode cX12_fillsFits 32 = .ok (.getfield 138, 3) := by decide +kernel
theorem dX12_fillsFits_35 : decode cX12_fillsFits 35 = .ok (.iload 5, 2) := by decide +kernel
theorem dX12_fillsFits_37 : decode cX12_fillsFits 37 = .ok (.baload, 1) := by decide +kernel
theorem dX12_fillsFits_38 : decode cX12_fillsFits 38 = .ok (.ifCond .eq 6, 3) := by decide +kernel
theorem dX12_fillsFits_41 : decode cX12_fillsFits 41 = .ok (.iinc 4 1, 3) := by decide +kernel
theorem dX12_fillsFits_44 : decode cX12_fillsFits 44 = .ok (.iinc 5 1, 3) := by decide +kernel
theorem dX12_fillsFits_47 : decode cX12_fillsFits 47 = .ok (.goto (-41), 3) := by decide +kernel
theorem dX12_fillsFits_50 : decode cX12_fillsFits 50 = .ok (.iload 4, 2) := by decide +kernel
theorem dX12_fillsFits_52 : decode cX12_fillsFits 52 = .ok (.ireturn, 1) := by decide +kernel
theorem dX12_fits_0 : decode cX12_fits 0 = .ok (.aload_n 0, 1) := by decide +kernel
theorem dX12_fits_1 : decode cX12_fits 1 = .ok (.iload_n 1, 1) := by decide +kernel
theorem dX12_fits_2 : decode cX12_fits 2 = .ok (.iload_n 2, 1) := by decide +kernel
theorem dX12_fits_3 : decode cX12_fits 3 = .ok (.iload_n 3, 1) := by decide +kernel
theorem dX12_fits_4 : decode cX12_fits 4 = .ok (.invokevirtual 448, 3) := by decide +kernel
theorem dX12_fits_7 : decode cX12_fits 7 = .ok (.ifCond .eq 9, 3) := by decide +kernel
theorem dX12_fits_10 : decode cX12_fits 10 = .ok (.iload 4, 2) := by decide +kernel
theorem dX12_fits_12 : decode cX12_fits 12 = .ok (.iconst (-1), 1) := by decide +kernel
theorem dX12_fits_13 : decode cX12_fits 13 = .ok (.if_icmp .ge 5, 3) := by decide +kernel
theorem dX12_fits_16 : decode cX12_fits 16 = .ok (.iconst (-1), 1) := by decide +kernel
theorem dX12_fits_17 : decode cX12_fits 17 = .ok (.ireturn, 1) := by decide +kernel
theorem dX12_fits_18 : decode cX12_fits 18 = .ok (.aload_n 0, 1) := by decide +kernel
theorem dX12_fits_19 : decode cX12_fits 19 = .ok (.iload_n 1, 1) := by decide +kernel
theorem dX12_fits_20 : decode cX12_fits 20 = .ok (.iload_n 2, 1) := by decide +kernel
theorem dX12_fits_21 : decode cX12_fits 21 = .ok (.iload_n 3, 1) := by decide +kernel
theorem dX12_fits_22 : decode cX12_fits 22 = .ok (.invokevirtual 451, 3) := by decide +kernel
theorem dX12_fits_25 : decode cX12_fits 25 = .ok (.istore 5, 2) := by decide +kernel
theorem dX12_fits_27 : decode cX12_fits 27 = .ok (.iload 4, 2) := by decide +kernel
theorem dX12_fits_29 : decode cX12_fits 29 = .ok (.iconst (-1), 1) := by decide +kernel
theorem dX12_fits_30 : decode cX12_fits 30 = .ok (.if_icmp .ne 6, 3) := by decide +kernel
theorem dX12_fits_33 : decode cX12_fits 33 = .ok (.iload 5, 2) := by decide +kernel
theorem dX12_fits_35 : decode cX12_fits 35 = .ok (.ireturn, 1) := by decide +kernel
theorem dX12_fits_36 : decode cX12_fits 36 = .ok (.iconst 0, 1) := by decide +kernel
theorem dX12_fits_37 : decode cX12_fits 37 = .ok (.istore 6, 2) := by decide +kernel
theorem dX12_fits_39 : decode cX12_fits 39 = .ok (.iconst 0, 1) := by decide +kernel
theorem dX12_fits_40 : decode cX12_fits 40 = .ok (.istore 7, 2) := by decide +kernel
theorem dX12_fits_42 : decode cX12_fits 42 = .ok (.iload 7, 2) := by decide +kernel
theorem dX12_fits_44 : decode cX12_fits 44 = .ok (.aload_n 0, 1) := by decide +kernel
theorem dX12_fits_45 : decode cX12_fits 45 = .ok (.invokevirtual 404, 3) := by decide +kernel
theorem dX12_fits_48 : decode cX12_fits 48 = .ok (.if_icmp .ge 35, 3) := by decide +kernel
theorem dX12_fits_51 : decode cX12_fits 51 = .ok (.aload_n 0, 1) := by decide +kernel
theorem dX12_fits_52 : decode cX12_fits 52 = .ok (.getfield 138, 3) := by decide +kernel
theorem dX12_fits_55 : decode cX12_fits 55 = .ok (.iload 7, 2) := by decide +kernel
theorem dX12_fits_57 : decode cX12_fits 57 = .ok (.baload, 1) := by decide +kernel
theorem dX12_fits_58 : decode cX12_fits 58 = .ok (.ifCond .ne 6, 3) := by decide +kernel
theorem dX12_fits_61 : decode cX12_fits 61 = .ok (.goto 16, 3) := by decide +kernel
theorem dX12_fits_64 : decode cX12_fits 64 = .ok (.iload 6, 2) := by decide +kernel
theorem dX12_fits_66 : decode cX12_fits 66 = .ok (.iload 4, 2) := by decide +kernel
theorem dX12_fits_68 : decode cX12_fits 68 = .ok (.if_icmp .ne 6, 3) := by decide +kernel
theorem dX12_fits_71 : decode cX12_fits 71 = .ok (.iload 7, 2) := by decide +kernel
theorem dX12_fits_73 : decode cX12_fits 73 = .ok (.ireturn, 1) := by decide +kernel
theorem dX12_fits_74 : decode cX12_fits 74 = .ok (.iinc 6 1, 3) := by decide +kernel
theorem dX12_fits_77 : decode cX12_fits 77 = .ok (.iinc 7 1, 3) := by decide +kernel
theorem dX12_fits_80 : decode cX12_fits 80 = .ok (.goto (-38), 3) := by decide +kernel
theorem dX12_fits_83 : decode cX12_fits 83 = .ok (.iconst (-1), 1) := by decide +kernel
theorem dX12_fits_84 : decode cX12_fits 84 = .ok (.ireturn, 1) := by decide +kernel
theorem dX12_spanOf_0 : decode cX12_spanOf 0 = .ok (.bipush 10, 2) := by decide +kernel
theorem dX12_spanOf_2 : decode cX12_spanOf 2 = .ok (.istore_n 2, 1) := by decide +kernel
theorem dX12_spanOf_3 : decode cX12_spanOf 3 = .ok (.iconst 0, 1) := by decide +kernel
theorem dX12_spanOf_4 : decode cX12_spanOf 4 = .ok (.istore_n 3, 1) := by decide +kernel
theorem dX12_spanOf_5 : decode cX12_spanOf 5 = .ok (.iconst 0, 1) := by decide +kernel
theorem dX12_spanOf_6 : decode cX12_spanOf 6 = .ok (.istore 4, 2) := by decide +kernel
theorem dX12_spanOf_8 : decode cX12_spanOf 8 = .ok (.iload 4, 2) := by decide +kernel
theorem dX12_spanOf_10 : decode cX12_spanOf 10 = .ok (.aload_n 0, 1) := by decide +kernel
theorem dX12_spanOf_11 : decode cX12_spanOf 11 = .ok (.invokevirtual 404, 3) := by decide +kernel
theorem dX12_spanOf_14 : decode cX12_spanOf 14 = .ok (.if_icmp .ge 49, 3) := by decide +kernel
theorem dX12_spanOf_17 : decode cX12_spanOf 17 = .ok (.aload_n 0, 1) := by decide +kernel
theorem dX12_spanOf_18 : decode cX12_spanOf 18 = .ok (.getfield 138, 3) := by decide +kernel
theorem dX12_spanOf_21 : decode cX12_spanOf 21 = .ok (.iload 4, 2) := by decide +kernel
theorem dX12_spanOf_23 : decode cX12_spanOf 23 = .ok (.baload, 1) := by decide +kernel
theorem dX12_spanOf_24 : decode cX12_spanOf 24 = .ok (.ifCond .ne 6, 3) := by decide +kernel
theorem dX12_spanOf_27 : decode cX12_spanOf 27 = .ok (.goto 30, 3) := by decide +kernel
theorem dX12_spanOf_30 : decode cX12_spanOf 30 = .ok (.aload_n 0, 1) := by decide +kernel
theorem dX12_spanOf_31 : decode cX12_spanOf 31 = .ok (.iload 4, 2) := by decide +kernel
theorem dX12_spanOf_33 : decode cX12_spanOf 33 = .ok (.iload_n 1, 1) := by decide +kernel
theorem dX12_spanOf_34 : decode cX12_spanOf 34 = .ok (.invokevirtual 394, 3) := by decide +kernel
theorem dX12_spanOf_37 : decode cX12_spanOf 37 = .ok (.istore 5, 2) := by decide +kernel
theorem dX12_spanOf_39 : decode cX12_spanOf 39 = .ok (.iload 5, 2) := by decide +kernel
theorem dX12_spanOf_41 : decode cX12_spanOf 41 = .ok (.iload_n 2, 1) := by decide +kernel
theorem dX12_spanOf_42 : decode cX12_spanOf 42 = .ok (.if_icmp .ge 6, 3) := by decide +kernel
theorem dX12_spanOf_45 : decode cX12_spanOf 45 = .ok (.iload 5, 2) := by decide +kernel
theorem dX12_spanOf_47 : decode cX12_spanOf 47 = .ok (.istore_n 2, 1) := by decide +kernel
theorem dX12_spanOf_48 : decode cX12_spanOf 48 = .ok (.iload 5, 2) := by decide +kernel
theorem dX12_spanOf_50 : decode cX12_spanOf 50 = .ok (.iload_n 3, 1) := by decide +kernel
theorem dX12_spanOf_51 : decode cX12_spanOf 51 = .ok (.if_icmp .le 6, 3) := by decide +kernel
theorem dX12_spanOf_54 : decode cX12_spanOf 54 = .ok (.iload 5, 2) := by decide +kernel
theorem dX12_spanOf_56 : decode cX12_spanOf 56 = .ok (.istore_n 3, 1) := by decide +kernel
theorem dX12_spanOf_57 : decode cX12_spanOf 57 = .ok (.iinc 4 1, 3) := by decide +kernel
theorem dX12_spanOf_60 : decode cX12_spanOf 60 = .ok (.goto (-52), 3) := by decide +kernel
theorem dX12_spanOf_63 : decode cX12_spanOf 63 = .ok (.bipush 10, 2) := by decide +kernel
theorem dX12_spanOf_65 : decode cX12_spanOf 65 = .ok (.iload_n 2, 1) := by decide +kernel
theorem dX12_spanOf_66 : decode cX12_spanOf 66 = .ok (.imul, 1) := by decide +kernel
theorem dX12_spanOf_67 : decode cX12_spanOf 67 = .ok (.iload_n 3, 1) := by decide +kernel
theorem dX12_spanOf_68 : decode cX12_spanOf 68 = .ok (.iadd, 1) := by decide +kernel
theorem dX12_spanOf_69 : decode cX12_spanOf 69 = .ok (.ireturn, 1) := by decide +kernel
theorem dX12_sure_0 : decode cX12_sure 0 = .ok (.aload_n 0, 1) := by decide +kernel
theorem dX12_sure_1 : decode cX12_sure 1 = .ok (.iload_n 1, 1) := by decide +kernel
theorem dX12_sure_2 : decode cX12_sure 2 = .ok (.iload_n 2, 1) := by decide +kernel
theorem dX12_sure_3 : decode cX12_sure 3 = .ok (.iload_n 3, 1) := by decide +kernel
theorem dX12_sure_4 : decode cX12_sure 4 = .ok (.invokevirtual 448, 3) := by decide +kernel
theorem dX12_sure_7 : decode cX12_sure 7 = .ok (.ifCond .ne 5, 3) := by decide +kernel
theorem dX12_sure_10 : decode cX12_sure 10 = .ok (.iconst (-1), 1) := by decide +kernel
theorem dX12_sure_11 : decode cX12_sure 11 = .ok (.ireturn, 1) := by decide +kernel
theorem dX12_sure_12 : decode cX12_sure 12 = .ok (.iconst 0, 1) := by decide +kernel
theorem dX12_sure_13 : decode cX12_sure 13 = .ok (.istore 4, 2) := by decide +kernel
theorem dX12_sure_15 : decode cX12_sure 15 = .ok (.aload_n 0, 1) := by decide +kernel
theorem dX12_sure_16 : decode cX12_sure 16 = .ok (.iload_n 1, 1) := by decide +kernel
theorem dX12_sure_17 : decode cX12_sure 17 = .ok (.iload_n 2, 1) := by decide +kernel
theorem dX12_sure_18 : decode cX12_sure 18 = .ok (.iload_n 3, 1) := by decide +kernel
theorem dX12_sure_19 : decode cX12_sure 19 = .ok (.invokevirtual 451, 3) := by decide +kernel
theorem dX12_sure_22 : decode cX12_sure 22 = .ok (.ifCond .le 47, 3) := by decide +kernel
theorem dX12_sure_25 : decode cX12_sure 25 = .ok (.iconst 0, 1) := by decide +kernel
theorem dX12_sure_26 : decode cX12_sure 26 = .ok (.istore 5, 2) := by decide +kernel
theorem dX12_sure_28 : decode cX12_sure 28 = .ok (.iload 5, 2) := by decide +kernel
theorem dX12_sure_30 : decode cX12_sure 30 = .ok (.aload_n 0, 1) := by decide +kernel
theorem dX12_sure_31 : decode cX12_sure 31 = .ok (.getfield 73, 3) := by decide +kernel
theorem dX12_sure_34 : decode cX12_sure 34 = .ok (.aload_n 0, 1) := by decide +kernel
theorem dX12_sure_35 : decode cX12_sure 35 = .ok (.getfield 243, 3) := by decide +kernel
theorem dX12_sure_38 : decode cX12_sure 38 = .ok (.iaload, 1) := by decide +kernel
theorem dX12_sure_39 : decode cX12_sure 39 = .ok (.if_icmp .ge 30, 3) := by decide +kernel
theorem dX12_sure_42 : decode cX12_sure 42 = .ok (.aload_n 0, 1) := by decide +kernel
theorem dX12_sure_43 : decode cX12_sure 43 = .ok (.iload 5, 2) := by decide +kernel
theorem dX12_sure_45 : decode cX12_sure 45 = .ok (.invokevirtual 454, 3) := by decide +kernel
theorem dX12_sure_48 : decode cX12_sure 48 = .ok (.bipush 11, 2) := by decide +kernel
theorem dX12_sure_50 : decode cX12_sure 50 = .ok (.irem, 1) := by decide +kernel
theorem dX12_sure_51 : decode cX12_sure 51 = .ok (.ifCond .ne 12, 3) := by decide +kernel
theorem dX12_sure_54 : decode cX12_sure 54 = .ok (.iload 4, 2) := by decide +kernel
theorem dX12_sure_56 : decode cX12_sure 56 = .ok (.iconst 1, 1) := by decide +kernel
theorem dX12_sure_57 : decode cX12_sure 57 = .ok (.iload 5, 2) := by decide +kernel
theorem dX12_sure_59 : decode cX12_sure 59 = .ok (.ishl, 1) := by decide +kernel
theorem dX12_sure_60 : decode cX12_sure 60 = .ok (.ior, 1) := by decide +kernel
theorem dX12_sure_61 : decode cX12_sure 61 = .ok (.istore 4, 2) := by decide +kernel
theorem dX12_sure_63 : decode cX12_sure 63 = .ok (.iinc 5 1, 3) := by decide +kernel
theorem dX12_sure_66 : decode cX12_sure 66 = .ok (.goto (-38), 3) := by decide +kernel
theorem dX12_sure_69 : decode cX12_sure 69 = .ok (.iload 4, 2) := by decide +kernel
theorem dX12_sure_71 : decode cX12_sure 71 = .ok (.ireturn, 1) := by decide +kernel
theorem dX12_span_0 : decode cX12_span 0 = .ok (.aload_n 0, 1) := by decide +kernel
theorem dX12_span_1 : decode cX12_span 1 = .ok (.iload_n 1, 1) := by decide +kernel
theorem dX12_span_2 : decode cX12_span 2 = .ok (.iload_n 2, 1) := by decide +kernel
theorem dX12_span_3 : decode cX12_span 3 = .ok (.iload_n 3, 1) := by decide +kernel
theorem dX12_span_4 : decode cX12_span 4 = .ok (.invokevirtual 448, 3) := by decide +kernel
theorem dX12_span_7 : decode cX12_span 7 = .ok (.ifCond .eq 25, 3) := by decide +kernel
theorem dX12_span_10 : decode cX12_span 10 = .ok (.iload 4, 2) := by decide +kernel
theorem dX12_span_12 : decode cX12_span 12 = .ok (.i2l, 1) := by decide +kernel
theorem dX12_span_13 : decode cX12_span 13 = .ok (.lconst 0, 1) := by decide +kernel
theorem dX12_span_14 : decode cX12_span 14 = .ok (.aload_n 0, 1) := by decide +kernel
theorem dX12_span_15 : decode cX12_span 15 = .ok (.getfield 73, 3) := by decide +kernel
theorem dX12_span_18 : decode cX12_span 18 = .ok (.aload_n 0, 1) := by decide +kernel
theorem dX12_span_19 : decode cX12_span 19 = .ok (.getfield 243, 3) := by decide +kernel
theorem dX12_span_22 : decode cX12_span 22 = .ok (.iaload, 1) := by decide +kernel
theorem dX12_span_23 : decode cX12_span 23 = .ok (.iconst 1, 1) := by decide +kernel
theorem dX12_span_24 : decode cX12_span 24 = .ok (.isub, 1) := by decide +kernel
theorem dX12_span_25 : decode cX12_span 25 = .ok (.i2l, 1) := by decide +kernel
theorem dX12_span_26 : decode cX12_span 26 = .ok (.invokestatic 332, 3) := by decide +kernel
theorem dX12_span_29 : decode cX12_span 29 = .ok (.ifCond .ne 5, 3) := by decide +kernel
theorem dX12_span_32 : decode cX12_span 32 = .ok (.iconst (-1), 1) := by decide +kernel
theorem dX12_span_33 : decode cX12_span 33 = .ok (.ireturn, 1) := by decide +kernel
theorem dX12_span_34 : decode cX12_span 34 = .ok (.aload_n 0, 1) := by decide +kernel
theorem dX12_span_35 : decode cX12_span 35 = .ok (.iload_n 1, 1) := by decide +kernel
theorem dX12_span_36 : decode cX12_span 36 = .ok (.iload_n 2, 1) := by decide +kernel
theorem dX12_span_37 : decode cX12_span 37 = .ok (.iload_n 3, 1) := by decide +kernel
theorem dX12_span_38 : decode cX12_span 38 = .ok (.invokevirtual 451, 3) := by decide +kernel
theorem dX12_span_41 : decode cX12_span 41 = .ok (.ifCond .ne 8, 3) := by decide +kernel
theorem dX12_span_44 : decode cX12_span 44 = .ok (.bipush (-2), 2) := by decide +kernel
theorem dX12_span_46 : decode cX12_span 46 = .ok (.goto 9, 3) := by decide +kernel
theorem dX12_span_49 : decode cX12_span 49 = .ok (.aload_n 0, 1) := by decide +kernel
theorem dX12_span_50 : decode cX12_span 50 = .ok (.iload 4, 2) := by decide +kernel
theorem dX12_span_52 : decode cX12_span 52 = .ok (.invokevirtual 454, 3) := by decide +kernel
theorem dX12_span_55 : decode cX12_span 55 = .ok (.ireturn, 1) := by decide +kernel
theorem dX12_liars_0 : decode cX12_liars 0 = .ok (.aload_n 0, 1) := by decide +kernel
theorem dX12_liars_1 : decode cX12_liars 1 = .ok (.iload_n 1, 1) := by decide +kernel
theorem dX12_liars_2 : decode cX12_liars 2 = .ok (.iload_n 2, 1) := by decide +kernel
theorem dX12_liars_3 : decode cX12_liars 3 = .ok (.iload_n 3, 1) := by decide +kernel
theorem dX12_liars_4 : decode cX12_liars 4 = .ok (.invokevirtual 448, 3) := by decide +kernel
theorem dX12_liars_7 : decode cX12_liars 7 = .ok (.ifCond .ne 5, 3) := by decide +kernel
theorem dX12_liars_10 : decode cX12_liars 10 = .ok (.iconst (-1), 1) := by decide +kernel
theorem dX12_liars_11 : decode cX12_liars 11 = .ok (.ireturn, 1) := by decide +kernel
theorem dX12_liars_12 : decode cX12_liars 12 = .ok (.aload_n 0, 1) := by decide +kernel
theorem dX12_liars_13 : decode cX12_liars 13 = .ok (.iload_n 1, 1) := by decide +kernel
theorem dX12_liars_14 : decode cX12_liars 14 = .ok (.iload_n 2, 1) := by decide +kernel
theorem dX12_liars_15 : decode cX12_liars 15 = .ok (.iload_n 3, 1) := by decide +kernel
theorem dX12_liars_16 : decode cX12_liars 16 = .ok (.invokevirtual 451, 3) := by decide +kernel
theorem dX12_liars_19 : decode cX12_liars 19 = .ok (.ifCond .ne 7, 3) := by decide +kernel
theorem dX12_liars_22 : decode cX12_liars 22 = .ok (.iconst 0, 1) := by decide +kernel
theorem dX12_liars_23 : decode cX12_liars 23 = .ok (.goto 8, 3) := by decide +kernel
theorem dX12_liars_26 : decode cX12_liars 26 = .ok (.iconst 1, 1) := by decide +kernel
theorem dX12_liars_27 : decode cX12_liars 27 = .ok (.iload_n 1, 1) := by decide +kernel
theorem dX12_liars_28 : decode cX12_liars 28 = .ok (.ishl, 1) := by decide +kernel
theorem dX12_liars_29 : decode cX12_liars 29 = .ok (.iconst 1, 1) := by decide +kernel
theorem dX12_liars_30 : decode cX12_liars 30 = .ok (.isub, 1) := by decide +kernel
theorem dX12_liars_31 : decode cX12_liars 31 = .ok (.istore 4, 2) := by decide +kernel
theorem dX12_liars_33 : decode cX12_liars 33 = .ok (.iconst 0, 1) := by decide +kernel
theorem dX12_liars_34 : decode cX12_liars 34 = .ok (.istore 5, 2) := by decide +kernel
theorem dX12_liars_36 : decode cX12_liars 36 = .ok (.iload 5, 2) := by decide +kernel
theorem dX12_liars_38 : decode cX12_liars 38 = .ok (.aload_n 0, 1) := by decide +kernel
theorem dX12_liars_39 : decode cX12_liars 39 = .ok (.invokevirtual 404, 3) := by decide +kernel
theorem dX12_liars_42 : decode cX12_liars 42 = .ok (.if_icmp .ge 56, 3) := by decide +kernel
theorem dX12_liars_45 : decode cX12_liars 45 = .ok (.aload_n 0, 1) := by decide +kernel
theorem dX12_liars_46 : decode cX12_liars 46 = .ok (.getfield 138, 3) := by decide +kernel
theorem dX12_liars_49 : decode cX12_liars 49 = .ok (.iload 5, 2) := by decide +kernel
theorem dX12_liars_51 : decode cX12_liars 51 = .ok (.baload, 1) := by decide +kernel
theorem dX12_liars_52 : decode cX12_liars 52 = .ok (.ifCond .eq 40, 3) := by decide +kernel
theorem dX12_liars_55 : decode cX12_liars 55 = .ok (.iconst 0, 1) := by decide +kernel
theorem dX12_liars_56 : decode cX12_liars 56 = .ok (.istore 6, 2) := by decide +kernel
theorem dX12_liars_58 : decode cX12_liars 58 = .ok (.iload 6, 2) := by decide +kernel
theorem dX12_liars_60 : decode cX12_liars 60 = .ok (.iload_n 1, 1) := by decide +kernel
theorem dX12_liars_61 : decode cX12_liars 61 = .ok (.if_icmp .ge 31, 3) := by decide +kernel
theorem dX12_liars_64 : decode cX12_liars 64 = .ok (.aload_n 0, 1) := by decide +kernel
theorem dX12_liars_65 : decode cX12_liars 65 = .ok (.iload 5, 2) := by decide +kernel
theorem dX12_liars_67 : decode cX12_liars 67 = .ok (.iload 6, 2) := by decide +kernel
theorem dX12_liars_69 : decode cX12_liars 69 = .ok (.invokevirtual 438, 3) := by decide +kernel
theorem dX12_liars_72 : decode cX12_liars 72 = .ok (.ifCond .eq 14, 3) := by decide +kernel
theorem dX12_liars_75 : decode cX12_liars 75 = .ok (.iload 4, 2) := by decide +kernel
theorem dX12_liars_77 : decode cX12_liars 77 = .ok (.iconst 1, 1) := by decide +kernel
theorem dX12_liars_78 : decode cX12_liars 78 = .ok (.iload 6, 2) := by decide +kernel
theorem dX12_liars_80 : decode cX12_liars 80 = .ok (.ishl, 1) := by decide +kernel
theorem dX12_liars_81 : decode cX12_liars 81 = .ok (.iconst (-1), 1) := by decide +kernel
theorem dX12_liars_82 : decode cX12_liars 82 = .ok (.ixor, 1) := by decide +kernel
theorem dX12_liars_83 : decode cX12_liars 83 = .ok (.iand, 1) := by decide +kernel
theorem dX12_liars_84 : decode cX12_liars 84 = .ok (.istore 4, 2) := by decide +kernel
theorem dX12_liars_86 : decode cX12_liars 86 = .ok (.iinc 6 1, 3) := by decide +kernel
theorem dX12_liars_89 : decode cX12_liars 89 = .ok (.goto (-31), 3) := by decide +kernel
theorem dX12_liars_92 : decode cX12_liars 92 = .ok (.iinc 5 1, 3) := by decide +kernel
theorem dX12_liars_95 : decode cX12_liars 95 = .ok (.goto (-59), 3) := by decide +kernel
theorem dX12_liars_98 : decode cX12_liars 98 = .ok (.iload 4, 2) := by decide +kernel
theorem dX12_liars_100 : decode cX12_liars 100 = .ok (.ireturn, 1) := by decide +kernel
theorem dX12_next_0 : decode cX12_next 0 = .ok (.aload_n 0, 1) := by decide +kernel
theorem dX12_next_1 : decode cX12_next 1 = .ok (.iload_n 1, 1) := by decide +kernel
theorem dX12_next_2 : decode cX12_next 2 = .ok (.iload_n 2, 1) := by decide +kernel
theorem dX12_next_3 : decode cX12_next 3 = .ok (.iload_n 3, 1) := by decide +kernel
theorem dX12_next_4 : decode cX12_next 4 = .ok (.invokevirtual 448, 3) := by decide +kernel
theorem dX12_next_7 : decode cX12_next 7 = .ok (.ifCond .eq 14, 3) := by decide +kernel
theorem dX12_next_10 : decode cX12_next 10 = .ok (.iload 4, 2) := by decide +kernel
theorem dX12_next_12 : decode cX12_next 12 = .ok (.i2l, 1) := by decide +kernel
theorem dX12_next_13 : decode cX12_next 13 = .ok (.lconst 0, 1) := by decide +kernel
theorem dX12_next_14 : decode cX12_next 14 = .ok (.lconst 1, 1) := by decide +kernel
theorem dX12_next_15 : decode cX12_next 15 = .ok (.invokestatic 332, 3) := by decide +kernel
theorem dX12_next_18 : decode cX12_next 18 = .ok (.ifCond .ne 7, 3) := by decide +kernel
theorem dX12_next_21 : decode cX12_next 21 = .ok (.sipush (-1000), 3) := by decide +kernel
theorem dX12_next_24 : decode cX12_next 24 = .ok (.ireturn, 1) := by decide +kernel
theorem dX12_next_25 : decode cX12_next 25 = .ok (.aload_n 0, 1) := by decide +kernel
theorem dX12_next_26 : decode cX12_next 26 = .ok (.iload_n 1, 1) := by decide +kernel
theorem dX12_next_27 : decode cX12_next 27 = .ok (.iload_n 2, 1) := by decide +kernel
theorem dX12_next_28 : decode cX12_next 28 = .ok (.iload_n 3, 1) := by decide +kernel
theorem dX12_next_29 : decode cX12_next 29 = .ok (.invokevirtual 451, 3) := by decide +kernel
theorem dX12_next_32 : decode cX12_next 32 = .ok (.ifCond .ne 7, 3) := by decide +kernel
theorem dX12_next_35 : decode cX12_next 35 = .ok (.sipush (-2000), 3) := by decide +kernel
theorem dX12_next_38 : decode cX12_next 38 = .ok (.ireturn, 1) := by decide +kernel
theorem dX12_next_39 : decode cX12_next 39 = .ok (.iconst 0, 1) := by decide +kernel
theorem dX12_next_40 : decode cX12_next 40 = .ok (.istore 5, 2) := by decide +kernel
theorem dX12_next_42 : decode cX12_next 42 = .ok (.iconst (-1), 1) := by decide +kernel
theorem dX12_next_43 : decode cX12_next 43 = .ok (.istore 6, 2) := by decide +kernel
theorem dX12_next_45 : decode cX12_next 45 = .ok (.bipush (-9), 2) := by decide +kernel
theorem dX12_next_47 : decode cX12_next 47 = .ok (.istore 7, 2) := by decide +kernel
theorem dX12_next_49 : decode cX12_next 49 = .ok (.iload 7, 2) := by decide +kernel
theorem dX12_next_51 : decode cX12_next 51 = .ok (.bipush 10, 2) := by decide +kernel
theorem dX12_next_53 : decode cX12_next 53 = .ok (.if_icmp .ge 119, 3) := by decide +kernel
theorem dX12_next_56 : decode cX12_next 56 = .ok (.aload_n 0, 1) := by decide +kernel
theorem dX12_next_57 : decode cX12_next 57 = .ok (.invokevirtual 401, 3) := by decide +kernel
theorem dX12_next_60 : decode cX12_next 60 = .ok (.iconst 0, 1) := by decide +kernel
theorem dX12_next_61 : decode cX12_next 61 = .ok (.istore 8, 2) := by decide +kernel
theorem dX12_next_63 : decode cX12_next 63 = .ok (.iconst 0, 1) := by decide +kernel
theorem dX12_next_64 : decode cX12_next 64 = .ok (.istore 9, 2) := by decide +kernel
theorem dX12_next_66 : decode cX12_next 66 = .ok (.iload 9, 2) := by decide +kernel
theorem dX12_next_68 : decode cX12_next 68 = .ok (.aload_n 0, 1) := by decide +kernel
theorem dX12_next_69 : decode cX12_next 69 = .ok (.invokevirtual 404, 3) := by decide +kernel
theorem dX12_next_72 : decode cX12_next 72 = .ok (.if_icmp .ge 71, 3) := by decide +kernel
theorem dX12_next_75 : decode cX12_next 75 = .ok (.aload_n 0, 1) := by decide +kernel
theorem dX12_next_76 : decode cX12_next 76 = .ok (.getfield 138, 3) := by decide +kernel
theorem dX12_next_79 : decode cX12_next 79 = .ok (.iload 9, 2) := by decide +kernel
theorem dX12_next_81 : decode cX12_next 81 = .ok (.baload, 1) := by decide +kernel
theorem dX12_next_82 : decode cX12_next 82 = .ok (.ifCond .ne 6, 3) := by decide +kernel
theorem dX12_next_85 : decode cX12_next 85 = .ok (.goto 52, 3) := by decide +kernel
theorem dX12_next_88 : decode cX12_next 88 = .ok (.aload_n 0, 1) := by decide +kernel
theorem dX12_next_89 : decode cX12_next 89 = .ok (.aload_n 0, 1) := by decide +kernel
theorem dX12_next_90 : decode cX12_next 90 = .ok (.iload 9, 2) := by decide +kernel
theorem dX12_next_92 : decode cX12_next 92 = .ok (.iload 7, 2) := by decide +kernel
theorem dX12_next_94 : decode cX12_next 94 = .ok (.i2l, 1) := by decide +kernel
theorem dX12_next_95 : decode cX12_next 95 = .ok (.invokevirtual 407, 3) := by decide +kernel
theorem dX12_next_98 : decode cX12_next 98 = .ok (.iload 9, 2) := by decide +kernel
theorem dX12_next_100 : decode cX12_next 100 = .ok (.invokevirtual 410, 3) := by decide +kernel
theorem dX12_next_103 : decode cX12_next 103 = .ok (.istore 10, 2) := by decide +kernel
theorem dX12_next_105 : decode cX12_next 105 = .ok (.aload_n 0, 1) := by decide +kernel
theorem dX12_next_106 : decode cX12_next 106 = .ok (.getfield 126, 3) := by decide +kernel
theorem dX12_next_109 : decode cX12_next 109 = .ok (.iload 10, 2) := by decide +kernel
theorem dX12_next_111 : decode cX12_next 111 = .ok (.dup2, 1) := by decide +kernel
theorem dX12_next_112 : decode cX12_next 112 = .ok (.iaload, 1) := by decide +kernel
theorem dX12_next_113 : decode cX12_next 113 = .ok (.iconst 1, 1) := by decide +kernel
theorem dX12_next_114 : decode cX12_next 114 = .ok (.iadd, 1) := by decide +kernel
theorem dX12_next_115 : decode cX12_next 115 = .ok (.iastore, 1) := by decide +kernel
theorem dX12_next_116 : decode cX12_next 116 = .ok (.aload_n 0, 1) := by decide +kernel
theorem dX12_next_117 : decode cX12_next 117 = .ok (.getfield 126, 3) := by decide +kernel
theorem dX12_next_120 : decode cX12_next 120 = .ok (.iload 10, 2) := by decide +kernel
theorem dX12_next_122 : decode cX12_next 122 = .ok (.iaload, 1) := by decide +kernel
theorem dX12_next_123 : decode cX12_next 123 = .ok (.iload 8, 2) := by decide +kernel
theorem dX12_next_125 : decode cX12_next 125 = .ok (.if_icmp .le 12, 3) := by decide +kernel
theorem dX12_next_128 : decode cX12_next 128 = .ok (.aload_n 0, 1) := by decide +kernel
theorem dX12_next_129 : decode cX12_next 129 = .ok (.getfield 126, 3) := by decide +kernel
theorem dX12_next_132 : decode cX12_next 132 = .ok (.iload 10, 2) := by decide +kernel
theorem dX12_next_134 : decode cX12_next 134 = .ok (.iaload, 1) := by decide +kernel
theorem dX12_next_135 : decode cX12_next 135 = .ok (.istore 8, 2) := by decide +kernel
theorem dX12_next_137 : decode cX12_next 137 = .ok (.iinc 9 1, 3) := by decide +kernel
theorem dX12_next_140 : decode cX12_next 140 = .ok (.goto (-74), 3) := by decide +kernel
theorem dX12_next_143 : decode cX12_next 143 = .ok (.iload 6, 2) := by decide +kernel
theorem dX12_next_145 : decode cX12_next 145 = .ok (.ifCond .lt 13, 3) := by decide +kernel
theorem dX12_next_148 : decode cX12_next 148 = .ok (.iload 8, 2) := by decide +kernel
theorem dX12_next_150 : decode cX12_next 150 = .ok (.iload 6, 2) := by decide +kernel
theorem dX12_next_152 : decode cX12_next 152 = .ok (.if_icmp .lt 6, 3) := by decide +kernel
theorem dX12_next_155 : decode cX12_next 155 = .ok (.goto 11, 3) := by decide +kernel
theorem dX12_next_158 : decode cX12_next 158 = .ok (.iload 7, 2) := by decide +kernel
theorem dX12_next_160 : decode cX12_next 160 = .ok (.istore 5, 2) := by decide +kernel
theorem dX12_next_162 : decode cX12_next 162 = .ok (.iload 8, 2) := by decide +kernel
theorem dX12_next_164 : decode cX12_next 164 = .ok (.istore 6, 2) := by decide +kernel
theorem dX12_next_166 : decode cX12_next 166 = .ok (.iinc 7 1, 3) := by decide +kernel
theorem dX12_next_169 : decode cX12_next 169 = .ok (.goto (-120), 3) := by decide +kernel
theorem dX12_next_172 : decode cX12_next 172 = .ok (.iload 4, 2) := by decide +kernel
theorem dX12_next_174 : decode cX12_next 174 = .ok (.ifCond .ne 8, 3) := by decide +kernel
theorem dX12_next_177 : decode cX12_next 177 = .ok (.iload 5, 2) := by decide +kernel
theorem dX12_next_179 : decode cX12_next 179 = .ok (.goto 5, 3) := by decide +kernel
theorem dX12_next_182 : decode cX12_next 182 = .ok (.iload 6, 2) := by decide +kernel
theorem dX12_next_184 : decode cX12_next 184 = .ok (.ireturn, 1) := by decide +kernel
theorem dX12_worldsAt_0 : decode cX12_worldsAt 0 = .ok (.iload_n 1, 1) := by decide +kernel
theorem dX12_worldsAt_1 : decode cX12_worldsAt 1 = .ok (.i2l, 1) := by decide +kernel
theorem dX12_worldsAt_2 : decode cX12_worldsAt 2 = .ok (.ldc2_w 430, 3) := by decide +kernel
theorem dX12_worldsAt_5 : decode cX12_worldsAt 5 = .ok (.ldc2_w 432, 3) := by decide +kernel
theorem dX12_worldsAt_8 : decode cX12_worldsAt 8 = .ok (.invokestatic 332, 3) := by decide +kernel
theorem dX12_worldsAt_11 : decode cX12_worldsAt 11 = .ok (.ifCond .ne 5, 3) := by decide +kernel
theorem dX12_worldsAt_14 : decode cX12_worldsAt 14 = .ok (.iconst (-1), 1) := by decide +kernel
theorem dX12_worldsAt_15 : decode cX12_worldsAt 15 = .ok (.ireturn, 1) := by decide +kernel
theorem dX12_worldsAt_16 : decode cX12_worldsAt 16 = .ok (.iconst 0, 1) := by decide +kernel
theorem dX12_worldsAt_17 : decode cX12_worldsAt 17 = .ok (.istore 4, 2) := by decide +kernel
theorem dX12_worldsAt_19 : decode cX12_worldsAt 19 = .ok (.iconst 0, 1) := by decide +kernel
theorem dX12_worldsAt_20 : decode cX12_worldsAt 20 = .ok (.istore 5, 2) := by decide +kernel
theorem dX12_worldsAt_22 : decode cX12_worldsAt 22 = .ok (.iload 5, 2) := by decide +kernel
theorem dX12_worldsAt_24 : decode cX12_worldsAt 24 = .ok (.aload_n 0, 1) := by decide +kernel
theorem dX12_worldsAt_25 : decode cX12_worldsAt 25 = .ok (.invokevirtual 404, 3) := by decide +kernel
theorem dX12_worldsAt_28 : decode cX12_worldsAt 28 = .ok (.if_icmp .ge 25, 3) := by decide +kernel
theorem dX12_worldsAt_31 : decode cX12_worldsAt 31 = .ok (.aload_n 0, 1) := by decide +kernel
theorem dX12_worldsAt_32 : decode cX12_worldsAt 32 = .ok (.iload 5, 2) := by decide +kernel
theorem dX12_worldsAt_34 : decode cX12_worldsAt 34 = .ok (.iload_n 1, 1) := by decide +kernel
theorem dX12_worldsAt_35 : decode cX12_worldsAt 35 = .ok (.i2l, 1) := by decide +kernel
theorem dX12_worldsAt_36 : decode cX12_worldsAt 36 = .ok (.invokevirtual 407, 3) := by decide +kernel
theorem dX12_worldsAt_39 : decode cX12_worldsAt 39 = .ok (.lload_n 2, 1) := by decide +kernel
theorem dX12_worldsAt_40 : decode cX12_worldsAt 40 = .ok (.lcmp, 1) := by decide +kernel
theorem dX12_worldsAt_41 : decode cX12_worldsAt 41 = .ok (.ifCond .ne 6, 3) := by decide +kernel
theorem dX12_worldsAt_44 : decode cX12_worldsAt 44 = .ok (.iinc 4 1, 3) := by decide +kernel
theorem dX12_worldsAt_47 : decode cX12_worldsAt 47 = .ok (.iinc 5 1, 3) := by decide +kernel
theorem dX12_worldsAt_50 : decode cX12_worldsAt 50 = .ok (.goto (-28), 3) := by decide +kernel
theorem dX12_worldsAt_53 : decode cX12_worldsAt 53 = .ok (.iload 4, 2) := by decide +kernel
theorem dX12_worldsAt_55 : decode cX12_worldsAt 55 = .ok (.ireturn, 1) := by decide +kernel
theorem dX12_cost_0 : decode cX12_cost 0 = .ok (.iload_n 1, 1) := by decide +kernel
theorem dX12_cost_1 : decode cX12_cost 1 = .ok (.i2l, 1) := by decide +kernel
theorem dX12_cost_2 : decode cX12_cost 2 = .ok (.lconst 0, 1) := by decide +kernel
theorem dX12_cost_3 : decode cX12_cost 3 = .ok (.aload_n 0, 1) := by decide +kernel
theorem dX12_cost_4 : decode cX12_cost 4 = .ok (.getfield 265, 3) := by decide +kernel
theorem dX12_cost_7 : decode cX12_cost 7 = .ok (.i2l, 1) := by decide +kernel
theorem dX12_cost_8 : decode cX12_cost 8 = .ok (.invokestatic 332, 3) := by decide +kernel
theorem dX12_cost_11 : decode cX12_cost 11 = .ok (.ifCond .ne 5, 3) := by decide +kernel
theorem dX12_cost_14 : decode cX12_cost 14 = .ok (.iconst (-1), 1) := by decide +kernel
theorem dX12_cost_15 : decode cX12_cost 15 = .ok (.ireturn, 1) := by decide +kernel
theorem dX12_cost_16 : decode cX12_cost 16 = .ok (.iconst 0, 1) := by decide +kernel
theorem dX12_cost_17 : decode cX12_cost 17 = .ok (.istore_n 2, 1) := by decide +kernel
theorem dX12_cost_18 : decode cX12_cost 18 = .ok (.iconst 0, 1) := by decide +kernel
theorem dX12_cost_19 : decode cX12_cost 19 = .ok (.istore_n 3, 1) := by decide +kernel
theorem dX12_cost_20 : decode cX12_cost 20 = .ok (.iload_n 3, 1) := by decide +kernel
theorem dX12_cost_21 : decode cX12_cost 21 = .ok (.iload_n 1, 1) := by decide +kernel
theorem dX12_cost_22 : decode cX12_cost 22 = .ok (.if_icmp .ge 22, 3) := by decide +kernel
theorem dX12_cost_25 : decode cX12_cost 25 = .ok (.iload_n 2, 1) := by decide +kernel
theorem dX12_cost_26 : decode cX12_cost 26 = .ok (.aload_n 0, 1) := by decide +kernel
theorem dX12_cost_27 : decode cX12_cost 27 = .ok (.getfield 132, 3) := by decide +kernel
theorem dX12_cost_30 : decode cX12_cost 30 = .ok (.iload_n 3, 1) := by decide +kernel
theorem dX12_cost_31 : decode cX12_cost 31 = .ok (.iaload, 1) := by decide +kernel
theorem dX12_cost_32 : decode cX12_cost 32 = .ok (.i2l, 1) := by decide +kernel
theorem dX12_cost_33 : decode cX12_cost 33 = .ok (.invokestatic 366, 3) := by decide +kernel
theorem dX12_cost_36 : decode cX12_cost 36 = .ok (.iadd, 1) := by decide +kernel
theorem dX12_cost_37 : decode cX12_cost 37 = .ok (.istore_n 2, 1) := by decide +kernel
theorem dX12_cost_38 : decode cX12_cost 38 = .ok (.iinc 3 1, 3) := by decide +kernel
theorem dX12_cost_41 : decode cX12_cost 41 = .ok (.goto (-21), 3) := by decide +kernel
theorem dX12_cost_44 : decode cX12_cost 44 = .ok (.iload_n 2, 1) := by decide +kernel
theorem dX12_cost_45 : decode cX12_cost 45 = .ok (.ireturn, 1) := by decide +kernel
theorem dX12_hide_0 : decode cX12_hide 0 = .ok (.aload_n 0, 1) := by decide +kernel
theorem dX12_hide_1 : decode cX12_hide 1 = .ok (.iload_n 1, 1) := by decide +kernel
theorem dX12_hide_2 : decode cX12_hide 2 = .ok (.invokevirtual 336, 3) := by decide +kernel
theorem dX12_hide_5 : decode cX12_hide 5 = .ok (.ifCond .ne 5, 3) := by decide +kernel
theorem dX12_hide_8 : decode cX12_hide 8 = .ok (.iconst 0, 1) := by decide +kernel
theorem dX12_hide_9 : decode cX12_hide 9 = .ok (.ireturn, 1) := by decide +kernel
theorem dX12_hide_10 : decode cX12_hide 10 = .ok (.aload_n 0, 1) := by decide +kernel
theorem dX12_hide_11 : decode cX12_hide 11 = .ok (.iload_n 1, 1) := by decide +kernel
theorem dX12_hide_12 : decode cX12_hide 12 = .ok (.putfield 141, 3) := by decide +kernel
theorem dX12_hide_15 : decode cX12_hide 15 = .ok (.aload_n 0, 1) := by decide +kernel
theorem dX12_hide_16 : decode cX12_hide 16 = .ok (.iconst 0, 1) := by decide +kernel
theorem dX12_hide_17 : decode cX12_hide 17 = .ok (.putfield 268, 3) := by decide +kernel
theorem dX12_hide_20 : decode cX12_hide 20 = .ok (.aload_n 0, 1) := by decide +kernel
theorem dX12_hide_21 : decode cX12_hide 21 = .ok (.iconst 0, 1) := by decide +kernel
theorem dX12_hide_22 : decode cX12_hide 22 = .ok (.putfield 265, 3) := by decide +kernel
theorem dX12_hide_25 : decode cX12_hide 25 = .ok (.iconst 1, 1) := by decide +kernel
theorem dX12_hide_26 : decode cX12_hide 26 = .ok (.ireturn, 1) := by decide +kernel
theorem dX12_ask_0 : decode cX12_ask 0 = .ok (.aload_n 0, 1) := by decide +kernel
theorem dX12_ask_1 : decode cX12_ask 1 = .ok (.getfield 141, 3) := by decide +kernel
theorem dX12_ask_4 : decode cX12_ask 4 = .ok (.ifCond .lt 26, 3) := by decide +kernel
theorem dX12_ask_7 : decode cX12_ask 7 = .ok (.aload_n 0, 1) := by decide +kernel
theorem dX12_ask_8 : decode cX12_ask 8 = .ok (.getfield 265, 3) := by decide +kernel
theorem dX12_ask_11 : decode cX12_ask 11 = .ok (.bipush 20, 2) := by decide +kernel
theorem dX12_ask_13 : decode cX12_ask 13 = .ok (.if_icmp .eq 17, 3) := by decide +kernel
theorem dX12_ask_16 : decode cX12_ask 16 = .ok (.iload_n 1, 1) := by decide +kernel
theorem dX12_ask_17 : decode cX12_ask 17 = .ok (.i2l, 1) := by decide +kernel
theorem dX12_ask_18 : decode cX12_ask 18 = .ok (.ldc2_w 430, 3) := by decide +kernel
theorem dX12_ask_21 : decode cX12_ask 21 = .ok (.ldc2_w 432, 3) := by decide +kernel
theorem dX12_ask_24 : decode cX12_ask 24 = .ok (.invokestatic 332, 3) := by decide +kernel
theorem dX12_ask_27 : decode cX12_ask 27 = .ok (.ifCond .ne 7, 3) := by decide +kernel
theorem dX12_ask_30 : decode cX12_ask 30 = .ok (.ldc2_w 353, 3) := by decide +kernel
theorem dX12_ask_33 : decode cX12_ask 33 = .ok (.lreturn, 1) := by decide +kernel
theorem dX12_ask_34 : decode cX12_ask 34 = .ok (.aload_n 0, 1) := by decide +kernel
theorem dX12_ask_35 : decode cX12_ask 35 = .ok (.dup, 1) := by decide +kernel
theorem dX12_ask_36 : decode cX12_ask 36 = .ok (.getfield 268, 3) := by decide +kernel
theorem dX12_ask_39 : decode cX12_ask 39 = .ok (.iconst 1, 1) := by decide +kernel
theorem dX12_ask_40 : decode cX12_ask 40 = .ok (.iadd, 1) := by decide +kernel
theorem dX12_ask_41 : decode cX12_ask 41 = .ok (.putfield 268, 3) := by decide +kernel
theorem dX12_ask_44 : decode cX12_ask 44 = .ok (.aload_n 0, 1) := by decide +kernel
theorem dX12_ask_45 : decode cX12_ask 45 = .ok (.aload_n 0, 1) := by decide +kernel
theorem dX12_ask_46 : decode cX12_ask 46 = .ok (.getfield 141, 3) := by decide +kernel
theorem dX12_ask_49 : decode cX12_ask 49 = .ok (.iload_n 1, 1) := by decide +kernel
theorem dX12_ask_50 : decode cX12_ask 50 = .ok (.i2l, 1) := by decide +kernel
theorem dX12_ask_51 : decode cX12_ask 51 = .ok (.invokevirtual 349, 3) := by decide +kernel
theorem dX12_ask_54 : decode cX12_ask 54 = .ok (.lstore_n 2, 1) := by decide +kernel
theorem dX12_ask_55 : decode cX12_ask 55 = .ok (.aload_n 0, 1) := by decide +kernel
theorem dX12_ask_56 : decode cX12_ask 56 = .ok (.getfield 79, 3) := by decide +kernel
theorem dX12_ask_59 : decode cX12_ask 59 = .ok (.aload_n 0, 1) := by decide +kernel
theorem dX12_ask_60 : decode cX12_ask 60 = .ok (.getfield 243, 3) := by decide +kernel
theorem dX12_ask_63 : decode cX12_ask 63 = .ok (.iaload, 1) := by decide +kernel
theorem dX12_ask_64 : decode cX12_ask 64 = .ok (.ifCond .le 24, 3) := by decide +kernel
theorem dX12_ask_67 : decode cX12_ask 67 = .ok (.aload_n 0, 1) := by decide +kernel
