/-! WHAT STANDS AT EACH pc -/
theorem at_0_0 : mm_at 0 0 = some ((.aload_n 0 : Instr), 1, 0, 0) := by decide +kernel
theorem at_0_1 : mm_at 0 1 = some ((.invokespecial 1 : Instr), 4, 1000, 0) := by decide +kernel
theorem at_0_4 : mm_at 0 4 = some ((.aload_n 0 : Instr), 5, 0, 0) := by decide +kernel
theorem at_0_5 : mm_at 0 5 = some ((.iload_n 1 : Instr), 6, 0, 0) := by decide +kernel
theorem at_0_6 : mm_at 0 6 = some ((.iconst (2) : Instr), 7, 0, 0) := by decide +kernel
theorem at_0_7 : mm_at 0 7 = some ((.if_icmp .lt (13) : Instr), 10, 20, 0) := by decide +kernel
theorem at_0_10 : mm_at 0 10 = some ((.iload_n 1 : Instr), 11, 0, 0) := by decide +kernel
theorem at_0_11 : mm_at 0 11 = some ((.bipush (6) : Instr), 13, 0, 0) := by decide +kernel
theorem at_0_13 : mm_at 0 13 = some ((.if_icmp .gt (7) : Instr), 16, 20, 0) := by decide +kernel
theorem at_0_16 : mm_at 0 16 = some ((.iload_n 1 : Instr), 17, 0, 0) := by decide +kernel
theorem at_0_17 : mm_at 0 17 = some ((.goto (4) : Instr), 20, 21, 0) := by decide +kernel
theorem at_0_20 : mm_at 0 20 = some ((.iconst (4) : Instr), 21, 0, 0) := by decide +kernel
theorem at_0_21 : mm_at 0 21 = some ((.putfield 7 : Instr), 24, 0, 0) := by decide +kernel
theorem at_0_24 : mm_at 0 24 = some ((.iload_n 2 : Instr), 25, 0, 0) := by decide +kernel
theorem at_0_25 : mm_at 0 25 = some ((.iconst (4) : Instr), 26, 0, 0) := by decide +kernel
theorem at_0_26 : mm_at 0 26 = some ((.if_icmp .lt (13) : Instr), 29, 39, 0) := by decide +kernel
theorem at_0_29 : mm_at 0 29 = some ((.iload_n 2 : Instr), 30, 0, 0) := by decide +kernel
theorem at_0_30 : mm_at 0 30 = some ((.bipush (8) : Instr), 32, 0, 0) := by decide +kernel
theorem at_0_32 : mm_at 0 32 = some ((.if_icmp .gt (7) : Instr), 35, 39, 0) := by decide +kernel
theorem at_0_35 : mm_at 0 35 = some ((.iload_n 2 : Instr), 36, 0, 0) := by decide +kernel
theorem at_0_36 : mm_at 0 36 = some ((.goto (5) : Instr), 39, 41, 0) := by decide +kernel
theorem at_0_39 : mm_at 0 39 = some ((.bipush (6) : Instr), 41, 0, 0) := by decide +kernel
theorem at_0_41 : mm_at 0 41 = some ((.istore 4 : Instr), 43, 0, 0) := by decide +kernel
theorem at_0_43 : mm_at 0 43 = some ((.aload_n 0 : Instr), 44, 0, 0) := by decide +kernel
theorem at_0_44 : mm_at 0 44 = some ((.aload_n 0 : Instr), 45, 0, 0) := by decide +kernel
theorem at_0_45 : mm_at 0 45 = some ((.getfield 7 : Instr), 48, 0, 0) := by decide +kernel
theorem at_0_48 : mm_at 0 48 = some ((.newarray .boolean : Instr), 50, 11, 0) := by decide +kernel
theorem at_0_50 : mm_at 0 50 = some ((.putfield 13 : Instr), 53, 0, 1) := by decide +kernel
theorem at_0_53 : mm_at 0 53 = some ((.aload_n 0 : Instr), 54, 0, 0) := by decide +kernel
theorem at_0_54 : mm_at 0 54 = some ((.bipush (10) : Instr), 56, 0, 0) := by decide +kernel
theorem at_0_56 : mm_at 0 56 = some ((.aload_n 0 : Instr), 57, 0, 0) := by decide +kernel
theorem at_0_57 : mm_at 0 57 = some ((.getfield 7 : Instr), 60, 0, 0) := by decide +kernel
theorem at_0_60 : mm_at 0 60 = some ((.iadd : Instr), 61, 0, 0) := by decide +kernel
theorem at_0_61 : mm_at 0 61 = some ((.anewarray 17 : Instr), 64, 13, 0) := by decide +kernel
theorem at_0_64 : mm_at 0 64 = some ((.putfield 19 : Instr), 67, 0, 2) := by decide +kernel
theorem at_0_67 : mm_at 0 67 = some ((.iconst (0) : Instr), 68, 0, 0) := by decide +kernel
theorem at_0_68 : mm_at 0 68 = some ((.istore 5 : Instr), 70, 0, 0) := by decide +kernel
theorem at_0_70 : mm_at 0 70 = some ((.iload 5 : Instr), 72, 0, 0) := by decide +kernel
theorem at_0_72 : mm_at 0 72 = some ((.aload_n 0 : Instr), 73, 0, 0) := by decide +kernel
theorem at_0_73 : mm_at 0 73 = some ((.getfield 7 : Instr), 76, 0, 0) := by decide +kernel
theorem at_0_76 : mm_at 0 76 = some ((.iconst (1) : Instr), 77, 0, 0) := by decide +kernel
theorem at_0_77 : mm_at 0 77 = some ((.isub : Instr), 78, 0, 0) := by decide +kernel
theorem at_0_78 : mm_at 0 78 = some ((.if_icmp .ge (33) : Instr), 81, 111, 0) := by decide +kernel
theorem at_0_81 : mm_at 0 81 = some ((.aload_n 0 : Instr), 82, 0, 0) := by decide +kernel
theorem at_0_82 : mm_at 0 82 = some ((.getfield 19 : Instr), 85, 0, 2) := by decide +kernel
theorem at_0_85 : mm_at 0 85 = some ((.iload 5 : Instr), 87, 0, 0) := by decide +kernel
theorem at_0_87 : mm_at 0 87 = some ((.new 17 : Instr), 90, 1, 0) := by decide +kernel
theorem at_0_90 : mm_at 0 90 = some ((.dup : Instr), 91, 0, 0) := by decide +kernel
theorem at_0_91 : mm_at 0 91 = some ((.iload 5 : Instr), 93, 0, 0) := by decide +kernel
theorem at_0_93 : mm_at 0 93 = some ((.iload 5 : Instr), 95, 0, 0) := by decide +kernel
theorem at_0_95 : mm_at 0 95 = some ((.iload 5 : Instr), 97, 0, 0) := by decide +kernel
theorem at_0_97 : mm_at 0 97 = some ((.iconst (1) : Instr), 98, 0, 0) := by decide +kernel
theorem at_0_98 : mm_at 0 98 = some ((.iadd : Instr), 99, 0, 0) := by decide +kernel
theorem at_0_99 : mm_at 0 99 = some ((.iload 4 : Instr), 101, 0, 0) := by decide +kernel
theorem at_0_101 : mm_at 0 101 = some ((.invokespecial 23 : Instr), 104, 34, 5) := by decide +kernel
theorem at_0_104 : mm_at 0 104 = some ((.aastore : Instr), 105, 0, 0) := by decide +kernel
theorem at_0_105 : mm_at 0 105 = some ((.iinc 5 (1) : Instr), 108, 0, 0) := by decide +kernel
theorem at_0_108 : mm_at 0 108 = some ((.goto (-38) : Instr), 111, 70, 0) := by decide +kernel
theorem at_0_111 : mm_at 0 111 = some ((.iconst (1) : Instr), 112, 0, 0) := by decide +kernel
theorem at_0_112 : mm_at 0 112 = some ((.istore 5 : Instr), 114, 0, 0) := by decide +kernel
theorem at_0_114 : mm_at 0 114 = some ((.iload 5 : Instr), 116, 0, 0) := by decide +kernel
theorem at_0_116 : mm_at 0 116 = some ((.aload_n 0 : Instr), 117, 0, 0) := by decide +kernel
theorem at_0_117 : mm_at 0 117 = some ((.getfield 7 : Instr), 120, 0, 0) := by decide +kernel
theorem at_0_120 : mm_at 0 120 = some ((.iconst (1) : Instr), 121, 0, 0) := by decide +kernel
theorem at_0_121 : mm_at 0 121 = some ((.isub : Instr), 122, 0, 0) := by decide +kernel
theorem at_0_122 : mm_at 0 122 = some ((.if_icmp .ge (51) : Instr), 125, 173, 0) := by decide +kernel
theorem at_0_125 : mm_at 0 125 = some ((.iload_n 3 : Instr), 126, 0, 0) := by decide +kernel
theorem at_0_126 : mm_at 0 126 = some ((.iload 5 : Instr), 128, 0, 0) := by decide +kernel
theorem at_0_128 : mm_at 0 128 = some ((.ishr : Instr), 129, 0, 0) := by decide +kernel
theorem at_0_129 : mm_at 0 129 = some ((.iconst (1) : Instr), 130, 0, 0) := by decide +kernel
theorem at_0_130 : mm_at 0 130 = some ((.iand : Instr), 131, 0, 0) := by decide +kernel
theorem at_0_131 : mm_at 0 131 = some ((.iconst (1) : Instr), 132, 0, 0) := by decide +kernel
theorem at_0_132 : mm_at 0 132 = some ((.if_icmp .ne (35) : Instr), 135, 167, 0) := by decide +kernel
theorem at_0_135 : mm_at 0 135 = some ((.aload_n 0 : Instr), 136, 0, 0) := by decide +kernel
theorem at_0_136 : mm_at 0 136 = some ((.getfield 19 : Instr), 139, 0, 2) := by decide +kernel
theorem at_0_139 : mm_at 0 139 = some ((.bipush (10) : Instr), 141, 0, 0) := by decide +kernel
theorem at_0_141 : mm_at 0 141 = some ((.iload 5 : Instr), 143, 0, 0) := by decide +kernel
theorem at_0_143 : mm_at 0 143 = some ((.iadd : Instr), 144, 0, 0) := by decide +kernel
theorem at_0_144 : mm_at 0 144 = some ((.new 17 : Instr), 147, 1, 0) := by decide +kernel
theorem at_0_147 : mm_at 0 147 = some ((.dup : Instr), 148, 0, 0) := by decide +kernel
theorem at_0_148 : mm_at 0 148 = some ((.bipush (10) : Instr), 150, 0, 0) := by decide +kernel
theorem at_0_150 : mm_at 0 150 = some ((.iload 5 : Instr), 152, 0, 0) := by decide +kernel
theorem at_0_152 : mm_at 0 152 = some ((.iadd : Instr), 153, 0, 0) := by decide +kernel
theorem at_0_153 : mm_at 0 153 = some ((.iload 5 : Instr), 155, 0, 0) := by decide +kernel
theorem at_0_155 : mm_at 0 155 = some ((.iconst (1) : Instr), 156, 0, 0) := by decide +kernel
theorem at_0_156 : mm_at 0 156 = some ((.isub : Instr), 157, 0, 0) := by decide +kernel
theorem at_0_157 : mm_at 0 157 = some ((.iload 5 : Instr), 159, 0, 0) := by decide +kernel
theorem at_0_159 : mm_at 0 159 = some ((.iconst (1) : Instr), 160, 0, 0) := by decide +kernel
theorem at_0_160 : mm_at 0 160 = some ((.iadd : Instr), 161, 0, 0) := by decide +kernel
theorem at_0_161 : mm_at 0 161 = some ((.iload 4 : Instr), 163, 0, 0) := by decide +kernel
theorem at_0_163 : mm_at 0 163 = some ((.invokespecial 23 : Instr), 166, 34, 5) := by decide +kernel
theorem at_0_166 : mm_at 0 166 = some ((.aastore : Instr), 167, 0, 0) := by decide +kernel
theorem at_0_167 : mm_at 0 167 = some ((.iinc 5 (1) : Instr), 170, 0, 0) := by decide +kernel
theorem at_0_170 : mm_at 0 170 = some ((.goto (-56) : Instr), 173, 114, 0) := by decide +kernel
theorem at_0_173 : mm_at 0 173 = some ((.aload_n 0 : Instr), 174, 0, 0) := by decide +kernel
theorem at_0_174 : mm_at 0 174 = some ((.bipush (8) : Instr), 176, 0, 0) := by decide +kernel
theorem at_0_176 : mm_at 0 176 = some ((.anewarray 26 : Instr), 179, 14, 0) := by decide +kernel
theorem at_0_179 : mm_at 0 179 = some ((.putfield 28 : Instr), 182, 0, 3) := by decide +kernel
theorem at_0_182 : mm_at 0 182 = some ((.iconst (0) : Instr), 183, 0, 0) := by decide +kernel
theorem at_0_183 : mm_at 0 183 = some ((.istore 5 : Instr), 185, 0, 0) := by decide +kernel
theorem at_0_185 : mm_at 0 185 = some ((.iload 5 : Instr), 187, 0, 0) := by decide +kernel
theorem at_0_187 : mm_at 0 187 = some ((.bipush (8) : Instr), 189, 0, 0) := by decide +kernel
theorem at_0_189 : mm_at 0 189 = some ((.if_icmp .ge (23) : Instr), 192, 212, 0) := by decide +kernel
theorem at_0_192 : mm_at 0 192 = some ((.aload_n 0 : Instr), 193, 0, 0) := by decide +kernel
theorem at_0_193 : mm_at 0 193 = some ((.getfield 28 : Instr), 196, 0, 3) := by decide +kernel
theorem at_0_196 : mm_at 0 196 = some ((.iload 5 : Instr), 198, 0, 0) := by decide +kernel
theorem at_0_198 : mm_at 0 198 = some ((.new 26 : Instr), 201, 3, 0) := by decide +kernel
theorem at_0_201 : mm_at 0 201 = some ((.dup : Instr), 202, 0, 0) := by decide +kernel
theorem at_0_202 : mm_at 0 202 = some ((.invokespecial 32 : Instr), 205, 49, 1) := by decide +kernel
theorem at_0_205 : mm_at 0 205 = some ((.aastore : Instr), 206, 0, 0) := by decide +kernel
theorem at_0_206 : mm_at 0 206 = some ((.iinc 5 (1) : Instr), 209, 0, 0) := by decide +kernel
theorem at_0_209 : mm_at 0 209 = some ((.goto (-24) : Instr), 212, 185, 0) := by decide +kernel
theorem at_0_212 : mm_at 0 212 = some ((.return_ : Instr), 213, 0, 0) := by decide +kernel
theorem at_1_0 : mm_at 1 0 = some ((.aload_n 0 : Instr), 1, 0, 0) := by decide +kernel
theorem at_1_1 : mm_at 1 1 = some ((.iload_n 2 : Instr), 2, 0, 0) := by decide +kernel
theorem at_1_2 : mm_at 1 2 = some ((.iload_n 1 : Instr), 3, 0, 0) := by decide +kernel
theorem at_1_3 : mm_at 1 3 = some ((.invokevirtual 33 : Instr), 6, 2, 3) := by decide +kernel
theorem at_1_6 : mm_at 1 6 = some ((.iload_n 1 : Instr), 7, 0, 0) := by decide +kernel
theorem at_1_7 : mm_at 1 7 = some ((.invokevirtual 37 : Instr), 10, 36, 2) := by decide +kernel
theorem at_1_10 : mm_at 1 10 = some ((.iload_n 3 : Instr), 11, 0, 0) := by decide +kernel
theorem at_1_11 : mm_at 1 11 = some ((.putfield 41 : Instr), 14, 2, 3) := by decide +kernel
theorem at_1_14 : mm_at 1 14 = some ((.return_ : Instr), 15, 0, 0) := by decide +kernel
theorem at_2_0 : mm_at 2 0 = some ((.aload_n 0 : Instr), 1, 0, 0) := by decide +kernel
theorem at_2_1 : mm_at 2 1 = some ((.iload_n 1 : Instr), 2, 0, 0) := by decide +kernel
theorem at_2_2 : mm_at 2 2 = some ((.invokevirtual 47 : Instr), 5, 3, 2) := by decide +kernel
theorem at_2_5 : mm_at 2 5 = some ((.astore_n 3 : Instr), 6, 0, 0) := by decide +kernel
theorem at_2_6 : mm_at 2 6 = some ((.aload_n 3 : Instr), 7, 0, 0) := by decide +kernel
theorem at_2_7 : mm_at 2 7 = some ((.iload_n 2 : Instr), 8, 0, 0) := by decide +kernel
theorem at_2_8 : mm_at 2 8 = some ((.invokevirtual 199 : Instr), 11, 40, 2) := by decide +kernel
theorem at_2_11 : mm_at 2 11 = some ((.ifCond .ne (13) : Instr), 14, 24, 0) := by decide +kernel
theorem at_2_14 : mm_at 2 14 = some ((.new 82 : Instr), 17, 20, 0) := by decide +kernel
theorem at_2_24 : mm_at 2 24 = some ((.aload_n 3 : Instr), 25, 0, 0) := by decide +kernel
theorem at_2_25 : mm_at 2 25 = some ((.areturn : Instr), 26, 0, 0) := by decide +kernel
theorem at_3_0 : mm_at 3 0 = some ((.aload_n 0 : Instr), 1, 0, 0) := by decide +kernel
theorem at_3_1 : mm_at 3 1 = some ((.iload_n 1 : Instr), 2, 0, 0) := by decide +kernel
theorem at_3_2 : mm_at 3 2 = some ((.invokevirtual 194 : Instr), 5, 4, 2) := by decide +kernel
theorem at_3_5 : mm_at 3 5 = some ((.ifCond .ne (13) : Instr), 8, 18, 0) := by decide +kernel
theorem at_3_8 : mm_at 3 8 = some ((.new 82 : Instr), 11, 20, 0) := by decide +kernel
theorem at_3_18 : mm_at 3 18 = some ((.aload_n 0 : Instr), 19, 0, 0) := by decide +kernel
theorem at_3_19 : mm_at 3 19 = some ((.getfield 19 : Instr), 22, 0, 2) := by decide +kernel
theorem at_3_22 : mm_at 3 22 = some ((.iload_n 1 : Instr), 23, 0, 0) := by decide +kernel
theorem at_3_23 : mm_at 3 23 = some ((.aaload : Instr), 24, 0, 0) := by decide +kernel
theorem at_3_24 : mm_at 3 24 = some ((.areturn : Instr), 25, 0, 0) := by decide +kernel
theorem at_4_0 : mm_at 4 0 = some ((.iload_n 1 : Instr), 1, 0, 0) := by decide +kernel
theorem at_4_1 : mm_at 4 1 = some ((.ifCond .lt (25) : Instr), 4, 26, 0) := by decide +kernel
theorem at_4_4 : mm_at 4 4 = some ((.iload_n 1 : Instr), 5, 0, 0) := by decide +kernel
theorem at_4_5 : mm_at 4 5 = some ((.aload_n 0 : Instr), 6, 0, 0) := by decide +kernel
theorem at_4_6 : mm_at 4 6 = some ((.getfield 19 : Instr), 9, 0, 2) := by decide +kernel
theorem at_4_9 : mm_at 4 9 = some ((.arraylength : Instr), 10, 0, 0) := by decide +kernel
theorem at_4_10 : mm_at 4 10 = some ((.if_icmp .ge (16) : Instr), 13, 26, 0) := by decide +kernel
theorem at_4_13 : mm_at 4 13 = some ((.aload_n 0 : Instr), 14, 0, 0) := by decide +kernel
theorem at_4_14 : mm_at 4 14 = some ((.getfield 19 : Instr), 17, 0, 2) := by decide +kernel
theorem at_4_17 : mm_at 4 17 = some ((.iload_n 1 : Instr), 18, 0, 0) := by decide +kernel
theorem at_4_18 : mm_at 4 18 = some ((.aaload : Instr), 19, 0, 0) := by decide +kernel
theorem at_4_19 : mm_at 4 19 = some ((.ifnull (7) : Instr), 22, 26, 0) := by decide +kernel
theorem at_4_22 : mm_at 4 22 = some ((.iconst (1) : Instr), 23, 0, 0) := by decide +kernel
theorem at_4_23 : mm_at 4 23 = some ((.goto (4) : Instr), 26, 27, 0) := by decide +kernel
theorem at_4_26 : mm_at 4 26 = some ((.iconst (0) : Instr), 27, 0, 0) := by decide +kernel
theorem at_4_27 : mm_at 4 27 = some ((.ireturn : Instr), 28, 2, 0) := by decide +kernel
theorem at_5_0 : mm_at 5 0 = some ((.aload_n 0 : Instr), 1, 0, 0) := by decide +kernel
theorem at_5_1 : mm_at 5 1 = some ((.iload_n 1 : Instr), 2, 0, 0) := by decide +kernel
theorem at_5_2 : mm_at 5 2 = some ((.invokevirtual 47 : Instr), 5, 3, 2) := by decide +kernel
theorem at_5_5 : mm_at 5 5 = some ((.iload_n 2 : Instr), 6, 0, 0) := by decide +kernel
theorem at_5_6 : mm_at 5 6 = some ((.putfield 51 : Instr), 9, 1, 6) := by decide +kernel
theorem at_5_9 : mm_at 5 9 = some ((.return_ : Instr), 10, 0, 0) := by decide +kernel
theorem at_6_0 : mm_at 6 0 = some ((.aload_n 0 : Instr), 1, 0, 0) := by decide +kernel
theorem at_6_1 : mm_at 6 1 = some ((.iload_n 2 : Instr), 2, 0, 0) := by decide +kernel
theorem at_6_2 : mm_at 6 2 = some ((.iload_n 1 : Instr), 3, 0, 0) := by decide +kernel
theorem at_6_3 : mm_at 6 3 = some ((.invokevirtual 33 : Instr), 6, 2, 3) := by decide +kernel
theorem at_6_6 : mm_at 6 6 = some ((.astore_n 3 : Instr), 7, 0, 0) := by decide +kernel
theorem at_6_7 : mm_at 6 7 = some ((.aload_n 3 : Instr), 8, 0, 0) := by decide +kernel
theorem at_6_8 : mm_at 6 8 = some ((.iload_n 1 : Instr), 9, 0, 0) := by decide +kernel
theorem at_6_9 : mm_at 6 9 = some ((.invokevirtual 37 : Instr), 12, 36, 2) := by decide +kernel
theorem at_6_12 : mm_at 6 12 = some ((.astore 4 : Instr), 14, 0, 0) := by decide +kernel
theorem at_6_14 : mm_at 6 14 = some ((.aload_n 3 : Instr), 15, 0, 0) := by decide +kernel
theorem at_6_15 : mm_at 6 15 = some ((.iload_n 1 : Instr), 16, 0, 0) := by decide +kernel
theorem at_6_16 : mm_at 6 16 = some ((.invokevirtual 54 : Instr), 19, 41, 2) := by decide +kernel
theorem at_6_19 : mm_at 6 19 = some ((.getfield 41 : Instr), 22, 2, 3) := by decide +kernel
theorem at_6_22 : mm_at 6 22 = some ((.ifCond .ne (5) : Instr), 25, 27, 0) := by decide +kernel
theorem at_6_25 : mm_at 6 25 = some ((.iconst (-1) : Instr), 26, 0, 0) := by decide +kernel
theorem at_6_26 : mm_at 6 26 = some ((.ireturn : Instr), 27, 1, 0) := by decide +kernel
theorem at_6_27 : mm_at 6 27 = some ((.aload_n 3 : Instr), 28, 0, 0) := by decide +kernel
theorem at_6_28 : mm_at 6 28 = some ((.getfield 51 : Instr), 31, 1, 6) := by decide +kernel
theorem at_6_31 : mm_at 6 31 = some ((.ifCond .ne (6) : Instr), 34, 37, 0) := by decide +kernel
theorem at_6_34 : mm_at 6 34 = some ((.bipush (-2) : Instr), 36, 0, 0) := by decide +kernel
theorem at_6_36 : mm_at 6 36 = some ((.ireturn : Instr), 37, 1, 0) := by decide +kernel
theorem at_6_37 : mm_at 6 37 = some ((.aload_n 3 : Instr), 38, 0, 0) := by decide +kernel
theorem at_6_38 : mm_at 6 38 = some ((.invokevirtual 57 : Instr), 41, 43, 1) := by decide +kernel
theorem at_6_41 : mm_at 6 41 = some ((.ifCond .ne (6) : Instr), 44, 47, 0) := by decide +kernel
theorem at_6_44 : mm_at 6 44 = some ((.bipush (-3) : Instr), 46, 0, 0) := by decide +kernel
theorem at_6_46 : mm_at 6 46 = some ((.ireturn : Instr), 47, 1, 0) := by decide +kernel
theorem at_6_47 : mm_at 6 47 = some ((.aload 4 : Instr), 49, 0, 0) := by decide +kernel
theorem at_6_49 : mm_at 6 49 = some ((.getfield 61 : Instr), 52, 2, 1) := by decide +kernel
theorem at_6_52 : mm_at 6 52 = some ((.ifCond .ne (6) : Instr), 55, 58, 0) := by decide +kernel
theorem at_6_55 : mm_at 6 55 = some ((.bipush (-4) : Instr), 57, 0, 0) := by decide +kernel
theorem at_6_57 : mm_at 6 57 = some ((.ireturn : Instr), 58, 1, 0) := by decide +kernel
theorem at_6_58 : mm_at 6 58 = some ((.aload_n 0 : Instr), 59, 0, 0) := by decide +kernel
theorem at_6_59 : mm_at 6 59 = some ((.aload_n 3 : Instr), 60, 0, 0) := by decide +kernel
theorem at_6_60 : mm_at 6 60 = some ((.invokevirtual 64 : Instr), 63, 7, 2) := by decide +kernel
theorem at_6_63 : mm_at 6 63 = some ((.ifCond .eq (6) : Instr), 66, 69, 0) := by decide +kernel
theorem at_6_66 : mm_at 6 66 = some ((.bipush (-5) : Instr), 68, 0, 0) := by decide +kernel
theorem at_6_68 : mm_at 6 68 = some ((.ireturn : Instr), 69, 1, 0) := by decide +kernel
theorem at_6_69 : mm_at 6 69 = some ((.aload 4 : Instr), 71, 0, 0) := by decide +kernel
theorem at_6_71 : mm_at 6 71 = some ((.invokevirtual 68 : Instr), 74, 47, 1) := by decide +kernel
theorem at_6_74 : mm_at 6 74 = some ((.istore 5 : Instr), 76, 0, 0) := by decide +kernel
theorem at_6_76 : mm_at 6 76 = some ((.aload 4 : Instr), 78, 0, 0) := by decide +kernel
theorem at_6_78 : mm_at 6 78 = some ((.invokevirtual 72 : Instr), 81, 48, 1) := by decide +kernel
theorem at_6_81 : mm_at 6 81 = some ((.aload_n 3 : Instr), 82, 0, 0) := by decide +kernel
theorem at_6_82 : mm_at 6 82 = some ((.iload 5 : Instr), 84, 0, 0) := by decide +kernel
theorem at_6_84 : mm_at 6 84 = some ((.bipush (10) : Instr), 86, 0, 0) := by decide +kernel
theorem at_6_86 : mm_at 6 86 = some ((.iload_n 1 : Instr), 87, 0, 0) := by decide +kernel
theorem at_6_87 : mm_at 6 87 = some ((.iadd : Instr), 88, 0, 0) := by decide +kernel
theorem at_6_88 : mm_at 6 88 = some ((.invokevirtual 75 : Instr), 91, 37, 3) := by decide +kernel
theorem at_6_91 : mm_at 6 91 = some ((.iload 5 : Instr), 93, 0, 0) := by decide +kernel
theorem at_6_93 : mm_at 6 93 = some ((.ireturn : Instr), 94, 1, 0) := by decide +kernel
theorem at_7_0 : mm_at 7 0 = some ((.aload_n 1 : Instr), 1, 0, 0) := by decide +kernel
theorem at_7_1 : mm_at 7 1 = some ((.getfield 213 : Instr), 4, 1, 0) := by decide +kernel
theorem at_7_4 : mm_at 7 4 = some ((.bipush (10) : Instr), 6, 0, 0) := by decide +kernel
theorem at_7_6 : mm_at 7 6 = some ((.if_icmp .lt (23) : Instr), 9, 29, 0) := by decide +kernel
theorem at_7_9 : mm_at 7 9 = some ((.aload_n 0 : Instr), 10, 0, 0) := by decide +kernel
theorem at_7_10 : mm_at 7 10 = some ((.aload_n 1 : Instr), 11, 0, 0) := by decide +kernel
theorem at_7_11 : mm_at 7 11 = some ((.getfield 213 : Instr), 14, 1, 0) := by decide +kernel
theorem at_7_14 : mm_at 7 14 = some ((.bipush (10) : Instr), 16, 0, 0) := by decide +kernel
theorem at_7_16 : mm_at 7 16 = some ((.isub : Instr), 17, 0, 0) := by decide +kernel
theorem at_7_17 : mm_at 7 17 = some ((.invokevirtual 167 : Instr), 20, 8, 2) := by decide +kernel
theorem at_7_20 : mm_at 7 20 = some ((.ifCond .ne (7) : Instr), 23, 27, 0) := by decide +kernel
theorem at_7_23 : mm_at 7 23 = some ((.iconst (1) : Instr), 24, 0, 0) := by decide +kernel
theorem at_7_24 : mm_at 7 24 = some ((.goto (4) : Instr), 27, 28, 0) := by decide +kernel
theorem at_7_27 : mm_at 7 27 = some ((.iconst (0) : Instr), 28, 0, 0) := by decide +kernel
theorem at_7_28 : mm_at 7 28 = some ((.ireturn : Instr), 29, 2, 0) := by decide +kernel
theorem at_7_29 : mm_at 7 29 = some ((.aload_n 0 : Instr), 30, 0, 0) := by decide +kernel
theorem at_7_30 : mm_at 7 30 = some ((.aload_n 1 : Instr), 31, 0, 0) := by decide +kernel
theorem at_7_31 : mm_at 7 31 = some ((.getfield 216 : Instr), 34, 1, 1) := by decide +kernel
theorem at_7_34 : mm_at 7 34 = some ((.invokevirtual 167 : Instr), 37, 8, 2) := by decide +kernel
theorem at_7_37 : mm_at 7 37 = some ((.ifCond .ne (14) : Instr), 40, 51, 0) := by decide +kernel
theorem at_7_40 : mm_at 7 40 = some ((.aload_n 0 : Instr), 41, 0, 0) := by decide +kernel
theorem at_7_41 : mm_at 7 41 = some ((.aload_n 1 : Instr), 42, 0, 0) := by decide +kernel
theorem at_7_42 : mm_at 7 42 = some ((.getfield 219 : Instr), 45, 1, 2) := by decide +kernel
theorem at_7_45 : mm_at 7 45 = some ((.invokevirtual 167 : Instr), 48, 8, 2) := by decide +kernel
theorem at_7_48 : mm_at 7 48 = some ((.ifCond .eq (7) : Instr), 51, 55, 0) := by decide +kernel
theorem at_7_51 : mm_at 7 51 = some ((.iconst (1) : Instr), 52, 0, 0) := by decide +kernel
theorem at_7_52 : mm_at 7 52 = some ((.goto (4) : Instr), 55, 56, 0) := by decide +kernel
theorem at_7_55 : mm_at 7 55 = some ((.iconst (0) : Instr), 56, 0, 0) := by decide +kernel
theorem at_7_56 : mm_at 7 56 = some ((.ireturn : Instr), 57, 2, 0) := by decide +kernel
theorem at_8_0 : mm_at 8 0 = some ((.aload_n 0 : Instr), 1, 0, 0) := by decide +kernel
theorem at_8_1 : mm_at 8 1 = some ((.iload_n 1 : Instr), 2, 0, 0) := by decide +kernel
theorem at_8_2 : mm_at 8 2 = some ((.invokevirtual 138 : Instr), 5, 9, 2) := by decide +kernel
theorem at_8_5 : mm_at 8 5 = some ((.ifCond .eq (16) : Instr), 8, 21, 0) := by decide +kernel
theorem at_8_8 : mm_at 8 8 = some ((.aload_n 0 : Instr), 9, 0, 0) := by decide +kernel
theorem at_8_9 : mm_at 8 9 = some ((.getfield 13 : Instr), 12, 0, 1) := by decide +kernel
theorem at_8_12 : mm_at 8 12 = some ((.iload_n 1 : Instr), 13, 0, 0) := by decide +kernel
theorem at_8_13 : mm_at 8 13 = some ((.baload : Instr), 14, 0, 0) := by decide +kernel
theorem at_8_14 : mm_at 8 14 = some ((.ifCond .eq (7) : Instr), 17, 21, 0) := by decide +kernel
theorem at_8_17 : mm_at 8 17 = some ((.iconst (1) : Instr), 18, 0, 0) := by decide +kernel
theorem at_8_18 : mm_at 8 18 = some ((.goto (4) : Instr), 21, 22, 0) := by decide +kernel
theorem at_8_21 : mm_at 8 21 = some ((.iconst (0) : Instr), 22, 0, 0) := by decide +kernel
theorem at_8_22 : mm_at 8 22 = some ((.ireturn : Instr), 23, 2, 0) := by decide +kernel
theorem at_9_0 : mm_at 9 0 = some ((.iload_n 1 : Instr), 1, 0, 0) := by decide +kernel
theorem at_9_1 : mm_at 9 1 = some ((.ifCond .lt (15) : Instr), 4, 16, 0) := by decide +kernel
theorem at_9_4 : mm_at 9 4 = some ((.iload_n 1 : Instr), 5, 0, 0) := by decide +kernel
theorem at_9_5 : mm_at 9 5 = some ((.aload_n 0 : Instr), 6, 0, 0) := by decide +kernel
theorem at_9_6 : mm_at 9 6 = some ((.getfield 7 : Instr), 9, 0, 0) := by decide +kernel
theorem at_9_9 : mm_at 9 9 = some ((.if_icmp .ge (7) : Instr), 12, 16, 0) := by decide +kernel
theorem at_9_12 : mm_at 9 12 = some ((.iconst (1) : Instr), 13, 0, 0) := by decide +kernel
theorem at_9_13 : mm_at 9 13 = some ((.goto (4) : Instr), 16, 17, 0) := by decide +kernel
theorem at_9_16 : mm_at 9 16 = some ((.iconst (0) : Instr), 17, 0, 0) := by decide +kernel
theorem at_9_17 : mm_at 9 17 = some ((.ireturn : Instr), 18, 2, 0) := by decide +kernel
theorem at_10_0 : mm_at 10 0 = some ((.aload_n 0 : Instr), 1, 0, 0) := by decide +kernel
theorem at_10_1 : mm_at 10 1 = some ((.iload_n 2 : Instr), 2, 0, 0) := by decide +kernel
theorem at_10_2 : mm_at 10 2 = some ((.iload_n 1 : Instr), 3, 0, 0) := by decide +kernel
theorem at_10_3 : mm_at 10 3 = some ((.invokevirtual 33 : Instr), 6, 2, 3) := by decide +kernel
theorem at_10_6 : mm_at 10 6 = some ((.astore 4 : Instr), 8, 0, 0) := by decide +kernel
theorem at_10_8 : mm_at 10 8 = some ((.aload_n 0 : Instr), 9, 0, 0) := by decide +kernel
theorem at_10_9 : mm_at 10 9 = some ((.iload_n 3 : Instr), 10, 0, 0) := by decide +kernel
theorem at_10_10 : mm_at 10 10 = some ((.invokevirtual 79 : Instr), 13, 11, 2) := by decide +kernel
theorem at_10_13 : mm_at 10 13 = some ((.aload 4 : Instr), 15, 0, 0) := by decide +kernel
theorem at_10_15 : mm_at 10 15 = some ((.if_acmp .eq (13) : Instr), 18, 28, 0) := by decide +kernel
theorem at_10_18 : mm_at 10 18 = some ((.new 82 : Instr), 21, 20, 0) := by decide +kernel
theorem at_10_28 : mm_at 10 28 = some ((.aload 4 : Instr), 30, 0, 0) := by decide +kernel
theorem at_10_30 : mm_at 10 30 = some ((.iload_n 3 : Instr), 31, 0, 0) := by decide +kernel
theorem at_10_31 : mm_at 10 31 = some ((.invokevirtual 89 : Instr), 34, 44, 2) := by decide +kernel
theorem at_10_34 : mm_at 10 34 = some ((.istore 5 : Instr), 36, 0, 0) := by decide +kernel
theorem at_10_36 : mm_at 10 36 = some ((.aload_n 0 : Instr), 37, 0, 0) := by decide +kernel
theorem at_10_37 : mm_at 10 37 = some ((.iload 5 : Instr), 39, 0, 0) := by decide +kernel
theorem at_10_39 : mm_at 10 39 = some ((.invokevirtual 93 : Instr), 42, 12, 2) := by decide +kernel
theorem at_10_42 : mm_at 10 42 = some ((.astore 6 : Instr), 44, 0, 0) := by decide +kernel
theorem at_10_44 : mm_at 10 44 = some ((.iload 5 : Instr), 46, 0, 0) := by decide +kernel
theorem at_10_46 : mm_at 10 46 = some ((.bipush (10) : Instr), 48, 0, 0) := by decide +kernel
theorem at_10_48 : mm_at 10 48 = some ((.iload_n 1 : Instr), 49, 0, 0) := by decide +kernel
theorem at_10_49 : mm_at 10 49 = some ((.iadd : Instr), 50, 0, 0) := by decide +kernel
theorem at_10_50 : mm_at 10 50 = some ((.if_icmp .ne (7) : Instr), 53, 57, 0) := by decide +kernel
theorem at_10_53 : mm_at 10 53 = some ((.iconst (1) : Instr), 54, 0, 0) := by decide +kernel
theorem at_10_54 : mm_at 10 54 = some ((.goto (4) : Instr), 57, 58, 0) := by decide +kernel
theorem at_10_57 : mm_at 10 57 = some ((.iconst (0) : Instr), 58, 0, 0) := by decide +kernel
theorem at_10_58 : mm_at 10 58 = some ((.istore 7 : Instr), 60, 0, 0) := by decide +kernel
theorem at_10_60 : mm_at 10 60 = some ((.aload 6 : Instr), 62, 0, 0) := by decide +kernel
theorem at_10_62 : mm_at 10 62 = some ((.ifnull (16) : Instr), 65, 78, 0) := by decide +kernel
theorem at_10_65 : mm_at 10 65 = some ((.aload 6 : Instr), 67, 0, 0) := by decide +kernel
theorem at_10_67 : mm_at 10 67 = some ((.getfield 97 : Instr), 70, 3, 1) := by decide +kernel
theorem at_10_70 : mm_at 10 70 = some ((.iload_n 1 : Instr), 71, 0, 0) := by decide +kernel
theorem at_10_71 : mm_at 10 71 = some ((.if_icmp .ne (7) : Instr), 74, 78, 0) := by decide +kernel
theorem at_10_74 : mm_at 10 74 = some ((.iconst (1) : Instr), 75, 0, 0) := by decide +kernel
theorem at_10_75 : mm_at 10 75 = some ((.goto (4) : Instr), 78, 79, 0) := by decide +kernel
theorem at_10_78 : mm_at 10 78 = some ((.iconst (0) : Instr), 79, 0, 0) := by decide +kernel
theorem at_10_79 : mm_at 10 79 = some ((.istore 8 : Instr), 81, 0, 0) := by decide +kernel
theorem at_10_81 : mm_at 10 81 = some ((.iload 7 : Instr), 83, 0, 0) := by decide +kernel
theorem at_10_83 : mm_at 10 83 = some ((.ifCond .ne (18) : Instr), 86, 101, 0) := by decide +kernel
theorem at_10_86 : mm_at 10 86 = some ((.iload 8 : Instr), 88, 0, 0) := by decide +kernel
theorem at_10_88 : mm_at 10 88 = some ((.ifCond .ne (13) : Instr), 91, 101, 0) := by decide +kernel
theorem at_10_91 : mm_at 10 91 = some ((.new 100 : Instr), 94, 21, 0) := by decide +kernel
theorem at_10_101 : mm_at 10 101 = some ((.aload 6 : Instr), 103, 0, 0) := by decide +kernel
theorem at_10_103 : mm_at 10 103 = some ((.ifnull (9) : Instr), 106, 112, 0) := by decide +kernel
theorem at_10_106 : mm_at 10 106 = some ((.aload 6 : Instr), 108, 0, 0) := by decide +kernel
theorem at_10_108 : mm_at 10 108 = some ((.iconst (-1) : Instr), 109, 0, 0) := by decide +kernel
theorem at_10_109 : mm_at 10 109 = some ((.putfield 105 : Instr), 112, 3, 4) := by decide +kernel
theorem at_10_112 : mm_at 10 112 = some ((.aload 4 : Instr), 114, 0, 0) := by decide +kernel
theorem at_10_114 : mm_at 10 114 = some ((.iload_n 1 : Instr), 115, 0, 0) := by decide +kernel
theorem at_10_115 : mm_at 10 115 = some ((.iload_n 3 : Instr), 116, 0, 0) := by decide +kernel
theorem at_10_116 : mm_at 10 116 = some ((.invokevirtual 108 : Instr), 119, 35, 3) := by decide +kernel
theorem at_10_119 : mm_at 10 119 = some ((.aload 4 : Instr), 121, 0, 0) := by decide +kernel
theorem at_10_121 : mm_at 10 121 = some ((.iload_n 1 : Instr), 122, 0, 0) := by decide +kernel
theorem at_10_122 : mm_at 10 122 = some ((.invokevirtual 37 : Instr), 125, 36, 2) := by decide +kernel
theorem at_10_125 : mm_at 10 125 = some ((.invokevirtual 72 : Instr), 128, 48, 1) := by decide +kernel
theorem at_10_128 : mm_at 10 128 = some ((.return_ : Instr), 129, 0, 0) := by decide +kernel
theorem at_11_0 : mm_at 11 0 = some ((.iload_n 1 : Instr), 1, 0, 0) := by decide +kernel
theorem at_11_1 : mm_at 11 1 = some ((.ifCond .ge (13) : Instr), 4, 14, 0) := by decide +kernel
theorem at_11_4 : mm_at 11 4 = some ((.new 82 : Instr), 7, 20, 0) := by decide +kernel
theorem at_11_14 : mm_at 11 14 = some ((.aload_n 0 : Instr), 15, 0, 0) := by decide +kernel
theorem at_11_15 : mm_at 11 15 = some ((.iload_n 1 : Instr), 16, 0, 0) := by decide +kernel
theorem at_11_16 : mm_at 11 16 = some ((.bipush (100) : Instr), 18, 0, 0) := by decide +kernel
theorem at_11_18 : mm_at 11 18 = some ((.idiv : Instr), 19, 0, 0) := by decide +kernel
theorem at_11_19 : mm_at 11 19 = some ((.invokevirtual 47 : Instr), 22, 3, 2) := by decide +kernel
theorem at_11_22 : mm_at 11 22 = some ((.astore_n 2 : Instr), 23, 0, 0) := by decide +kernel
theorem at_11_23 : mm_at 11 23 = some ((.aload_n 2 : Instr), 24, 0, 0) := by decide +kernel
theorem at_11_24 : mm_at 11 24 = some ((.iload_n 1 : Instr), 25, 0, 0) := by decide +kernel
theorem at_11_25 : mm_at 11 25 = some ((.invokevirtual 206 : Instr), 28, 38, 2) := by decide +kernel
theorem at_11_28 : mm_at 11 28 = some ((.ifCond .ne (13) : Instr), 31, 41, 0) := by decide +kernel
theorem at_11_31 : mm_at 11 31 = some ((.new 82 : Instr), 34, 20, 0) := by decide +kernel
theorem at_11_41 : mm_at 11 41 = some ((.aload_n 2 : Instr), 42, 0, 0) := by decide +kernel
theorem at_11_42 : mm_at 11 42 = some ((.areturn : Instr), 43, 0, 0) := by decide +kernel
theorem at_12_0 : mm_at 12 0 = some ((.iload_n 1 : Instr), 1, 0, 0) := by decide +kernel
theorem at_12_1 : mm_at 12 1 = some ((.bipush (20) : Instr), 3, 0, 0) := by decide +kernel
theorem at_12_3 : mm_at 12 3 = some ((.isub : Instr), 4, 0, 0) := by decide +kernel
theorem at_12_4 : mm_at 12 4 = some ((.istore_n 2 : Instr), 5, 0, 0) := by decide +kernel
theorem at_12_5 : mm_at 12 5 = some ((.iload_n 2 : Instr), 6, 0, 0) := by decide +kernel
theorem at_12_6 : mm_at 12 6 = some ((.ifCond .lt (18) : Instr), 9, 24, 0) := by decide +kernel
theorem at_12_9 : mm_at 12 9 = some ((.iload_n 2 : Instr), 10, 0, 0) := by decide +kernel
theorem at_12_10 : mm_at 12 10 = some ((.bipush (8) : Instr), 12, 0, 0) := by decide +kernel
theorem at_12_12 : mm_at 12 12 = some ((.if_icmp .ge (12) : Instr), 15, 24, 0) := by decide +kernel
theorem at_12_15 : mm_at 12 15 = some ((.aload_n 0 : Instr), 16, 0, 0) := by decide +kernel
theorem at_12_16 : mm_at 12 16 = some ((.getfield 28 : Instr), 19, 0, 3) := by decide +kernel
theorem at_12_19 : mm_at 12 19 = some ((.iload_n 2 : Instr), 20, 0, 0) := by decide +kernel
theorem at_12_20 : mm_at 12 20 = some ((.aaload : Instr), 21, 0, 0) := by decide +kernel
theorem at_12_21 : mm_at 12 21 = some ((.goto (4) : Instr), 24, 25, 0) := by decide +kernel
theorem at_12_24 : mm_at 12 24 = some ((.aconst_null : Instr), 25, 0, 0) := by decide +kernel
theorem at_12_25 : mm_at 12 25 = some ((.areturn : Instr), 26, 0, 0) := by decide +kernel
theorem at_13_0 : mm_at 13 0 = some ((.aload_n 0 : Instr), 1, 0, 0) := by decide +kernel
theorem at_13_1 : mm_at 13 1 = some ((.iload_n 1 : Instr), 2, 0, 0) := by decide +kernel
theorem at_13_2 : mm_at 13 2 = some ((.invokevirtual 111 : Instr), 5, 14, 2) := by decide +kernel
theorem at_13_5 : mm_at 13 5 = some ((.astore_n 3 : Instr), 6, 0, 0) := by decide +kernel
theorem at_13_6 : mm_at 13 6 = some ((.aload_n 0 : Instr), 7, 0, 0) := by decide +kernel
theorem at_13_7 : mm_at 13 7 = some ((.iload_n 2 : Instr), 8, 0, 0) := by decide +kernel
theorem at_13_8 : mm_at 13 8 = some ((.invokevirtual 114 : Instr), 11, 15, 2) := by decide +kernel
theorem at_13_11 : mm_at 13 11 = some ((.aload_n 3 : Instr), 12, 0, 0) := by decide +kernel
theorem at_13_12 : mm_at 13 12 = some ((.getfield 118 : Instr), 15, 3, 0) := by decide +kernel
theorem at_13_15 : mm_at 13 15 = some ((.ifCond .eq (13) : Instr), 18, 28, 0) := by decide +kernel
theorem at_13_18 : mm_at 13 18 = some ((.new 100 : Instr), 21, 21, 0) := by decide +kernel
theorem at_13_28 : mm_at 13 28 = some ((.aload_n 3 : Instr), 29, 0, 0) := by decide +kernel
theorem at_13_29 : mm_at 13 29 = some ((.iconst (1) : Instr), 30, 0, 0) := by decide +kernel
theorem at_13_30 : mm_at 13 30 = some ((.putfield 118 : Instr), 33, 3, 0) := by decide +kernel
theorem at_13_33 : mm_at 13 33 = some ((.aload_n 3 : Instr), 34, 0, 0) := by decide +kernel
theorem at_13_34 : mm_at 13 34 = some ((.iload_n 2 : Instr), 35, 0, 0) := by decide +kernel
theorem at_13_35 : mm_at 13 35 = some ((.putfield 97 : Instr), 38, 3, 1) := by decide +kernel
theorem at_13_38 : mm_at 13 38 = some ((.return_ : Instr), 39, 0, 0) := by decide +kernel
theorem at_14_0 : mm_at 14 0 = some ((.iload_n 1 : Instr), 1, 0, 0) := by decide +kernel
theorem at_14_1 : mm_at 14 1 = some ((.ifCond .lt (9) : Instr), 4, 10, 0) := by decide +kernel
theorem at_14_4 : mm_at 14 4 = some ((.iload_n 1 : Instr), 5, 0, 0) := by decide +kernel
theorem at_14_5 : mm_at 14 5 = some ((.bipush (8) : Instr), 7, 0, 0) := by decide +kernel
theorem at_14_7 : mm_at 14 7 = some ((.if_icmp .lt (13) : Instr), 10, 20, 0) := by decide +kernel
theorem at_14_10 : mm_at 14 10 = some ((.new 82 : Instr), 13, 20, 0) := by decide +kernel
theorem at_14_20 : mm_at 14 20 = some ((.aload_n 0 : Instr), 21, 0, 0) := by decide +kernel
theorem at_14_21 : mm_at 14 21 = some ((.getfield 28 : Instr), 24, 0, 3) := by decide +kernel
theorem at_14_24 : mm_at 14 24 = some ((.iload_n 1 : Instr), 25, 0, 0) := by decide +kernel
theorem at_14_25 : mm_at 14 25 = some ((.aaload : Instr), 26, 0, 0) := by decide +kernel
theorem at_14_26 : mm_at 14 26 = some ((.areturn : Instr), 27, 0, 0) := by decide +kernel
theorem at_15_0 : mm_at 15 0 = some ((.aload_n 0 : Instr), 1, 0, 0) := by decide +kernel
theorem at_15_1 : mm_at 15 1 = some ((.iload_n 1 : Instr), 2, 0, 0) := by decide +kernel
theorem at_15_2 : mm_at 15 2 = some ((.invokevirtual 138 : Instr), 5, 9, 2) := by decide +kernel
theorem at_15_5 : mm_at 15 5 = some ((.ifCond .ne (13) : Instr), 8, 18, 0) := by decide +kernel
theorem at_15_8 : mm_at 15 8 = some ((.new 82 : Instr), 11, 20, 0) := by decide +kernel
theorem at_15_18 : mm_at 15 18 = some ((.return_ : Instr), 19, 0, 0) := by decide +kernel
theorem at_16_0 : mm_at 16 0 = some ((.aload_n 0 : Instr), 1, 0, 0) := by decide +kernel
theorem at_16_1 : mm_at 16 1 = some ((.iload_n 1 : Instr), 2, 0, 0) := by decide +kernel
theorem at_16_2 : mm_at 16 2 = some ((.invokevirtual 123 : Instr), 5, 17, 2) := by decide +kernel
theorem at_16_5 : mm_at 16 5 = some ((.astore_n 3 : Instr), 6, 0, 0) := by decide +kernel
theorem at_16_6 : mm_at 16 6 = some ((.aload_n 0 : Instr), 7, 0, 0) := by decide +kernel
theorem at_16_7 : mm_at 16 7 = some ((.iload_n 2 : Instr), 8, 0, 0) := by decide +kernel
theorem at_16_8 : mm_at 16 8 = some ((.invokevirtual 79 : Instr), 11, 11, 2) := by decide +kernel
theorem at_16_11 : mm_at 16 11 = some ((.astore 4 : Instr), 13, 0, 0) := by decide +kernel
theorem at_16_13 : mm_at 16 13 = some ((.aload_n 3 : Instr), 14, 0, 0) := by decide +kernel
theorem at_16_14 : mm_at 16 14 = some ((.getfield 97 : Instr), 17, 3, 1) := by decide +kernel
theorem at_16_17 : mm_at 16 17 = some ((.iconst (-1) : Instr), 18, 0, 0) := by decide +kernel
theorem at_16_18 : mm_at 16 18 = some ((.if_icmp .eq (19) : Instr), 21, 37, 0) := by decide +kernel
theorem at_16_21 : mm_at 16 21 = some ((.aload 4 : Instr), 23, 0, 0) := by decide +kernel
theorem at_16_23 : mm_at 16 23 = some ((.iload_n 2 : Instr), 24, 0, 0) := by decide +kernel
theorem at_16_24 : mm_at 16 24 = some ((.invokevirtual 89 : Instr), 27, 44, 2) := by decide +kernel
theorem at_16_27 : mm_at 16 27 = some ((.bipush (10) : Instr), 29, 0, 0) := by decide +kernel
theorem at_16_29 : mm_at 16 29 = some ((.aload_n 3 : Instr), 30, 0, 0) := by decide +kernel
theorem at_16_30 : mm_at 16 30 = some ((.getfield 97 : Instr), 33, 3, 1) := by decide +kernel
theorem at_16_33 : mm_at 16 33 = some ((.iadd : Instr), 34, 0, 0) := by decide +kernel
theorem at_16_34 : mm_at 16 34 = some ((.if_icmp .eq (13) : Instr), 37, 47, 0) := by decide +kernel
theorem at_16_37 : mm_at 16 37 = some ((.new 100 : Instr), 40, 21, 0) := by decide +kernel
theorem at_16_47 : mm_at 16 47 = some ((.aload_n 3 : Instr), 48, 0, 0) := by decide +kernel
theorem at_16_48 : mm_at 16 48 = some ((.getfield 105 : Instr), 51, 3, 4) := by decide +kernel
theorem at_16_51 : mm_at 16 51 = some ((.iconst (-1) : Instr), 52, 0, 0) := by decide +kernel
theorem at_16_52 : mm_at 16 52 = some ((.if_icmp .eq (13) : Instr), 55, 65, 0) := by decide +kernel
theorem at_16_55 : mm_at 16 55 = some ((.new 100 : Instr), 58, 21, 0) := by decide +kernel
theorem at_16_65 : mm_at 16 65 = some ((.aload_n 3 : Instr), 66, 0, 0) := by decide +kernel
theorem at_16_66 : mm_at 16 66 = some ((.iload_n 2 : Instr), 67, 0, 0) := by decide +kernel
theorem at_16_67 : mm_at 16 67 = some ((.putfield 105 : Instr), 70, 3, 4) := by decide +kernel
theorem at_16_70 : mm_at 16 70 = some ((.aload 4 : Instr), 72, 0, 0) := by decide +kernel
theorem at_16_72 : mm_at 16 72 = some ((.iload_n 2 : Instr), 73, 0, 0) := by decide +kernel
theorem at_16_73 : mm_at 16 73 = some ((.bipush (20) : Instr), 75, 0, 0) := by decide +kernel
theorem at_16_75 : mm_at 16 75 = some ((.iload_n 1 : Instr), 76, 0, 0) := by decide +kernel
theorem at_16_76 : mm_at 16 76 = some ((.iadd : Instr), 77, 0, 0) := by decide +kernel
theorem at_16_77 : mm_at 16 77 = some ((.invokevirtual 75 : Instr), 80, 37, 3) := by decide +kernel
theorem at_16_80 : mm_at 16 80 = some ((.return_ : Instr), 81, 0, 0) := by decide +kernel
theorem at_17_0 : mm_at 17 0 = some ((.aload_n 0 : Instr), 1, 0, 0) := by decide +kernel
theorem at_17_1 : mm_at 17 1 = some ((.iload_n 1 : Instr), 2, 0, 0) := by decide +kernel
theorem at_17_2 : mm_at 17 2 = some ((.invokevirtual 111 : Instr), 5, 14, 2) := by decide +kernel
theorem at_17_5 : mm_at 17 5 = some ((.astore_n 2 : Instr), 6, 0, 0) := by decide +kernel
theorem at_17_6 : mm_at 17 6 = some ((.aload_n 2 : Instr), 7, 0, 0) := by decide +kernel
theorem at_17_7 : mm_at 17 7 = some ((.getfield 118 : Instr), 10, 3, 0) := by decide +kernel
theorem at_17_10 : mm_at 17 10 = some ((.ifCond .ne (13) : Instr), 13, 23, 0) := by decide +kernel
theorem at_17_13 : mm_at 17 13 = some ((.new 82 : Instr), 16, 20, 0) := by decide +kernel
theorem at_17_23 : mm_at 17 23 = some ((.aload_n 2 : Instr), 24, 0, 0) := by decide +kernel
theorem at_17_24 : mm_at 17 24 = some ((.areturn : Instr), 25, 0, 0) := by decide +kernel
theorem at_18_0 : mm_at 18 0 = some ((.aload_n 0 : Instr), 1, 0, 0) := by decide +kernel
theorem at_18_1 : mm_at 18 1 = some ((.iload_n 1 : Instr), 2, 0, 0) := by decide +kernel
theorem at_18_2 : mm_at 18 2 = some ((.invokevirtual 123 : Instr), 5, 17, 2) := by decide +kernel
theorem at_18_5 : mm_at 18 5 = some ((.astore_n 2 : Instr), 6, 0, 0) := by decide +kernel
theorem at_18_6 : mm_at 18 6 = some ((.aload_n 2 : Instr), 7, 0, 0) := by decide +kernel
theorem at_18_7 : mm_at 18 7 = some ((.getfield 105 : Instr), 10, 3, 4) := by decide +kernel
theorem at_18_10 : mm_at 18 10 = some ((.iconst (-1) : Instr), 11, 0, 0) := by decide +kernel
theorem at_18_11 : mm_at 18 11 = some ((.if_icmp .eq (11) : Instr), 14, 22, 0) := by decide +kernel
theorem at_18_14 : mm_at 18 14 = some ((.aload_n 2 : Instr), 15, 0, 0) := by decide +kernel
theorem at_18_15 : mm_at 18 15 = some ((.getfield 97 : Instr), 18, 3, 1) := by decide +kernel
theorem at_18_18 : mm_at 18 18 = some ((.iconst (-1) : Instr), 19, 0, 0) := by decide +kernel
theorem at_18_19 : mm_at 18 19 = some ((.if_icmp .ne (13) : Instr), 22, 32, 0) := by decide +kernel
theorem at_18_22 : mm_at 18 22 = some ((.new 100 : Instr), 25, 21, 0) := by decide +kernel
theorem at_18_32 : mm_at 18 32 = some ((.aload_n 2 : Instr), 33, 0, 0) := by decide +kernel
theorem at_18_33 : mm_at 18 33 = some ((.getfield 105 : Instr), 36, 3, 4) := by decide +kernel
theorem at_18_36 : mm_at 18 36 = some ((.istore_n 3 : Instr), 37, 0, 0) := by decide +kernel
theorem at_18_37 : mm_at 18 37 = some ((.aload_n 2 : Instr), 38, 0, 0) := by decide +kernel
theorem at_18_38 : mm_at 18 38 = some ((.iconst (-1) : Instr), 39, 0, 0) := by decide +kernel
theorem at_18_39 : mm_at 18 39 = some ((.putfield 105 : Instr), 42, 3, 4) := by decide +kernel
theorem at_18_42 : mm_at 18 42 = some ((.aload_n 0 : Instr), 43, 0, 0) := by decide +kernel
theorem at_18_43 : mm_at 18 43 = some ((.iload_n 3 : Instr), 44, 0, 0) := by decide +kernel
theorem at_18_44 : mm_at 18 44 = some ((.invokevirtual 79 : Instr), 47, 11, 2) := by decide +kernel
theorem at_18_47 : mm_at 18 47 = some ((.iload_n 3 : Instr), 48, 0, 0) := by decide +kernel
theorem at_18_48 : mm_at 18 48 = some ((.bipush (10) : Instr), 50, 0, 0) := by decide +kernel
theorem at_18_50 : mm_at 18 50 = some ((.aload_n 2 : Instr), 51, 0, 0) := by decide +kernel
theorem at_18_51 : mm_at 18 51 = some ((.getfield 97 : Instr), 54, 3, 1) := by decide +kernel
theorem at_18_54 : mm_at 18 54 = some ((.iadd : Instr), 55, 0, 0) := by decide +kernel
theorem at_18_55 : mm_at 18 55 = some ((.invokevirtual 75 : Instr), 58, 37, 3) := by decide +kernel
theorem at_18_58 : mm_at 18 58 = some ((.iload_n 3 : Instr), 59, 0, 0) := by decide +kernel
theorem at_18_59 : mm_at 18 59 = some ((.ireturn : Instr), 60, 1, 0) := by decide +kernel
theorem at_19_0 : mm_at 19 0 = some ((.aload_n 0 : Instr), 1, 0, 0) := by decide +kernel
theorem at_19_1 : mm_at 19 1 = some ((.iload_n 1 : Instr), 2, 0, 0) := by decide +kernel
theorem at_19_2 : mm_at 19 2 = some ((.invokevirtual 123 : Instr), 5, 17, 2) := by decide +kernel
theorem at_19_5 : mm_at 19 5 = some ((.astore_n 3 : Instr), 6, 0, 0) := by decide +kernel
theorem at_19_6 : mm_at 19 6 = some ((.aload_n 3 : Instr), 7, 0, 0) := by decide +kernel
theorem at_19_7 : mm_at 19 7 = some ((.getfield 97 : Instr), 10, 3, 1) := by decide +kernel
theorem at_19_10 : mm_at 19 10 = some ((.iconst (-1) : Instr), 11, 0, 0) := by decide +kernel
theorem at_19_11 : mm_at 19 11 = some ((.if_icmp .ne (13) : Instr), 14, 24, 0) := by decide +kernel
theorem at_19_14 : mm_at 19 14 = some ((.new 100 : Instr), 17, 21, 0) := by decide +kernel
theorem at_19_24 : mm_at 19 24 = some ((.aload_n 0 : Instr), 25, 0, 0) := by decide +kernel
theorem at_19_25 : mm_at 19 25 = some ((.aload_n 3 : Instr), 26, 0, 0) := by decide +kernel
theorem at_19_26 : mm_at 19 26 = some ((.getfield 97 : Instr), 29, 3, 1) := by decide +kernel
theorem at_19_29 : mm_at 19 29 = some ((.iload_n 2 : Instr), 30, 0, 0) := by decide +kernel
theorem at_19_30 : mm_at 19 30 = some ((.invokevirtual 134 : Instr), 33, 20, 3) := by decide +kernel
theorem at_19_33 : mm_at 19 33 = some ((.istore 4 : Instr), 35, 0, 0) := by decide +kernel
theorem at_19_35 : mm_at 19 35 = some ((.aload_n 0 : Instr), 36, 0, 0) := by decide +kernel
theorem at_19_36 : mm_at 19 36 = some ((.iload 4 : Instr), 38, 0, 0) := by decide +kernel
theorem at_19_38 : mm_at 19 38 = some ((.invokevirtual 138 : Instr), 41, 9, 2) := by decide +kernel
theorem at_19_41 : mm_at 19 41 = some ((.ifCond .ne (13) : Instr), 44, 54, 0) := by decide +kernel
theorem at_19_44 : mm_at 19 44 = some ((.new 142 : Instr), 47, 22, 0) := by decide +kernel
theorem at_19_54 : mm_at 19 54 = some ((.aload_n 3 : Instr), 55, 0, 0) := by decide +kernel
theorem at_19_55 : mm_at 19 55 = some ((.getfield 97 : Instr), 58, 3, 1) := by decide +kernel
theorem at_19_58 : mm_at 19 58 = some ((.iload 4 : Instr), 60, 0, 0) := by decide +kernel
theorem at_19_60 : mm_at 19 60 = some ((.invokestatic 147 : Instr), 63, 21, 2) := by decide +kernel
theorem at_19_63 : mm_at 19 63 = some ((.istore 5 : Instr), 65, 0, 0) := by decide +kernel
theorem at_19_65 : mm_at 19 65 = some ((.aload_n 3 : Instr), 66, 0, 0) := by decide +kernel
theorem at_19_66 : mm_at 19 66 = some ((.getfield 105 : Instr), 69, 3, 4) := by decide +kernel
theorem at_19_69 : mm_at 19 69 = some ((.iconst (-1) : Instr), 70, 0, 0) := by decide +kernel
theorem at_19_70 : mm_at 19 70 = some ((.if_icmp .eq (15) : Instr), 73, 85, 0) := by decide +kernel
theorem at_19_73 : mm_at 19 73 = some ((.aload_n 3 : Instr), 74, 0, 0) := by decide +kernel
theorem at_19_74 : mm_at 19 74 = some ((.getfield 105 : Instr), 77, 3, 4) := by decide +kernel
theorem at_19_77 : mm_at 19 77 = some ((.bipush (100) : Instr), 79, 0, 0) := by decide +kernel
theorem at_19_79 : mm_at 19 79 = some ((.idiv : Instr), 80, 0, 0) := by decide +kernel
theorem at_19_80 : mm_at 19 80 = some ((.iload 5 : Instr), 82, 0, 0) := by decide +kernel
theorem at_19_82 : mm_at 19 82 = some ((.if_icmp .eq (13) : Instr), 85, 95, 0) := by decide +kernel
theorem at_19_85 : mm_at 19 85 = some ((.new 151 : Instr), 88, 23, 0) := by decide +kernel
theorem at_19_95 : mm_at 19 95 = some ((.aload_n 3 : Instr), 96, 0, 0) := by decide +kernel
theorem at_19_96 : mm_at 19 96 = some ((.iconst (-1) : Instr), 97, 0, 0) := by decide +kernel
theorem at_19_97 : mm_at 19 97 = some ((.putfield 97 : Instr), 100, 3, 1) := by decide +kernel
theorem at_19_100 : mm_at 19 100 = some ((.aload_n 3 : Instr), 101, 0, 0) := by decide +kernel
theorem at_19_101 : mm_at 19 101 = some ((.iload 5 : Instr), 103, 0, 0) := by decide +kernel
theorem at_19_103 : mm_at 19 103 = some ((.putfield 156 : Instr), 106, 3, 2) := by decide +kernel
theorem at_19_106 : mm_at 19 106 = some ((.aload_n 3 : Instr), 107, 0, 0) := by decide +kernel
theorem at_19_107 : mm_at 19 107 = some ((.iload 4 : Instr), 109, 0, 0) := by decide +kernel
theorem at_19_109 : mm_at 19 109 = some ((.putfield 159 : Instr), 112, 3, 3) := by decide +kernel
theorem at_19_112 : mm_at 19 112 = some ((.iload 5 : Instr), 114, 0, 0) := by decide +kernel
theorem at_19_114 : mm_at 19 114 = some ((.ireturn : Instr), 115, 1, 0) := by decide +kernel
theorem at_20_0 : mm_at 20 0 = some ((.iload_n 2 : Instr), 1, 0, 0) := by decide +kernel
theorem at_20_1 : mm_at 20 1 = some ((.ifCond .eq (7) : Instr), 4, 8, 0) := by decide +kernel
theorem at_20_4 : mm_at 20 4 = some ((.iconst (1) : Instr), 5, 0, 0) := by decide +kernel
theorem at_20_5 : mm_at 20 5 = some ((.goto (4) : Instr), 8, 9, 0) := by decide +kernel
theorem at_20_8 : mm_at 20 8 = some ((.iconst (-1) : Instr), 9, 0, 0) := by decide +kernel
theorem at_20_9 : mm_at 20 9 = some ((.istore_n 3 : Instr), 10, 0, 0) := by decide +kernel
theorem at_20_10 : mm_at 20 10 = some ((.iload_n 1 : Instr), 11, 0, 0) := by decide +kernel
theorem at_20_11 : mm_at 20 11 = some ((.iload_n 3 : Instr), 12, 0, 0) := by decide +kernel
theorem at_20_12 : mm_at 20 12 = some ((.iadd : Instr), 13, 0, 0) := by decide +kernel
theorem at_20_13 : mm_at 20 13 = some ((.istore 4 : Instr), 15, 0, 0) := by decide +kernel
theorem at_20_15 : mm_at 20 15 = some ((.aload_n 0 : Instr), 16, 0, 0) := by decide +kernel
theorem at_20_16 : mm_at 20 16 = some ((.iload 4 : Instr), 18, 0, 0) := by decide +kernel
theorem at_20_18 : mm_at 20 18 = some ((.invokevirtual 167 : Instr), 21, 8, 2) := by decide +kernel
theorem at_20_21 : mm_at 20 21 = some ((.ifCond .eq (10) : Instr), 24, 31, 0) := by decide +kernel
theorem at_20_24 : mm_at 20 24 = some ((.iload 4 : Instr), 26, 0, 0) := by decide +kernel
theorem at_20_26 : mm_at 20 26 = some ((.iload_n 3 : Instr), 27, 0, 0) := by decide +kernel
theorem at_20_27 : mm_at 20 27 = some ((.iadd : Instr), 28, 0, 0) := by decide +kernel
theorem at_20_28 : mm_at 20 28 = some ((.goto (5) : Instr), 31, 33, 0) := by decide +kernel
theorem at_20_31 : mm_at 20 31 = some ((.iload 4 : Instr), 33, 0, 0) := by decide +kernel
theorem at_20_33 : mm_at 20 33 = some ((.ireturn : Instr), 34, 1, 0) := by decide +kernel
theorem at_21_0 : mm_at 21 0 = some ((.iload_n 0 : Instr), 1, 0, 0) := by decide +kernel
theorem at_21_1 : mm_at 21 1 = some ((.iload_n 1 : Instr), 2, 0, 0) := by decide +kernel
theorem at_21_2 : mm_at 21 2 = some ((.invokestatic 222 : Instr), 5, 1001, 0) := by decide +kernel
theorem at_21_5 : mm_at 21 5 = some ((.istore_n 2 : Instr), 6, 0, 0) := by decide +kernel
theorem at_21_6 : mm_at 21 6 = some ((.iload_n 0 : Instr), 7, 0, 0) := by decide +kernel
theorem at_21_7 : mm_at 21 7 = some ((.iload_n 1 : Instr), 8, 0, 0) := by decide +kernel
theorem at_21_8 : mm_at 21 8 = some ((.isub : Instr), 9, 0, 0) := by decide +kernel
theorem at_21_9 : mm_at 21 9 = some ((.invokestatic 227 : Instr), 12, 1002, 0) := by decide +kernel
theorem at_21_12 : mm_at 21 12 = some ((.iconst (1) : Instr), 13, 0, 0) := by decide +kernel
theorem at_21_13 : mm_at 21 13 = some ((.if_icmp .ne (7) : Instr), 16, 20, 0) := by decide +kernel
theorem at_21_16 : mm_at 21 16 = some ((.iload_n 2 : Instr), 17, 0, 0) := by decide +kernel
theorem at_21_17 : mm_at 21 17 = some ((.goto (9) : Instr), 20, 26, 0) := by decide +kernel
theorem at_21_20 : mm_at 21 20 = some ((.bipush (10) : Instr), 22, 0, 0) := by decide +kernel
theorem at_21_22 : mm_at 21 22 = some ((.iload_n 2 : Instr), 23, 0, 0) := by decide +kernel
theorem at_21_23 : mm_at 21 23 = some ((.iadd : Instr), 24, 0, 0) := by decide +kernel
theorem at_21_24 : mm_at 21 24 = some ((.iconst (1) : Instr), 25, 0, 0) := by decide +kernel
theorem at_21_25 : mm_at 21 25 = some ((.iadd : Instr), 26, 0, 0) := by decide +kernel
theorem at_21_26 : mm_at 21 26 = some ((.ireturn : Instr), 27, 1, 0) := by decide +kernel
theorem at_22_0 : mm_at 22 0 = some ((.aload_n 0 : Instr), 1, 0, 0) := by decide +kernel
theorem at_22_1 : mm_at 22 1 = some ((.iload_n 1 : Instr), 2, 0, 0) := by decide +kernel
theorem at_22_2 : mm_at 22 2 = some ((.invokevirtual 123 : Instr), 5, 17, 2) := by decide +kernel
theorem at_22_5 : mm_at 22 5 = some ((.astore_n 2 : Instr), 6, 0, 0) := by decide +kernel
theorem at_22_6 : mm_at 22 6 = some ((.aload_n 2 : Instr), 7, 0, 0) := by decide +kernel
theorem at_22_7 : mm_at 22 7 = some ((.getfield 156 : Instr), 10, 3, 2) := by decide +kernel
theorem at_22_10 : mm_at 22 10 = some ((.iconst (-1) : Instr), 11, 0, 0) := by decide +kernel
theorem at_22_11 : mm_at 22 11 = some ((.if_icmp .ne (13) : Instr), 14, 24, 0) := by decide +kernel
theorem at_22_14 : mm_at 22 14 = some ((.new 100 : Instr), 17, 21, 0) := by decide +kernel
theorem at_22_24 : mm_at 22 24 = some ((.aload_n 2 : Instr), 25, 0, 0) := by decide +kernel
theorem at_22_25 : mm_at 22 25 = some ((.aload_n 2 : Instr), 26, 0, 0) := by decide +kernel
theorem at_22_26 : mm_at 22 26 = some ((.getfield 159 : Instr), 29, 3, 3) := by decide +kernel
theorem at_22_29 : mm_at 22 29 = some ((.putfield 97 : Instr), 32, 3, 1) := by decide +kernel
theorem at_22_32 : mm_at 22 32 = some ((.aload_n 2 : Instr), 33, 0, 0) := by decide +kernel
theorem at_22_33 : mm_at 22 33 = some ((.iconst (-1) : Instr), 34, 0, 0) := by decide +kernel
theorem at_22_34 : mm_at 22 34 = some ((.putfield 156 : Instr), 37, 3, 2) := by decide +kernel
theorem at_22_37 : mm_at 22 37 = some ((.aload_n 2 : Instr), 38, 0, 0) := by decide +kernel
theorem at_22_38 : mm_at 22 38 = some ((.iconst (-1) : Instr), 39, 0, 0) := by decide +kernel
theorem at_22_39 : mm_at 22 39 = some ((.putfield 159 : Instr), 42, 3, 3) := by decide +kernel
theorem at_22_42 : mm_at 22 42 = some ((.aload_n 2 : Instr), 43, 0, 0) := by decide +kernel
theorem at_22_43 : mm_at 22 43 = some ((.getfield 97 : Instr), 46, 3, 1) := by decide +kernel
theorem at_22_46 : mm_at 22 46 = some ((.ireturn : Instr), 47, 1, 0) := by decide +kernel
theorem at_23_0 : mm_at 23 0 = some ((.aload_n 0 : Instr), 1, 0, 0) := by decide +kernel
theorem at_23_1 : mm_at 23 1 = some ((.iload_n 1 : Instr), 2, 0, 0) := by decide +kernel
theorem at_23_2 : mm_at 23 2 = some ((.invokevirtual 114 : Instr), 5, 15, 2) := by decide +kernel
theorem at_23_5 : mm_at 23 5 = some ((.aload_n 0 : Instr), 6, 0, 0) := by decide +kernel
theorem at_23_6 : mm_at 23 6 = some ((.iload_n 1 : Instr), 7, 0, 0) := by decide +kernel
theorem at_23_7 : mm_at 23 7 = some ((.invokevirtual 164 : Instr), 10, 24, 2) := by decide +kernel
theorem at_23_10 : mm_at 23 10 = some ((.ifCond .eq (11) : Instr), 13, 21, 0) := by decide +kernel
theorem at_23_13 : mm_at 23 13 = some ((.aload_n 0 : Instr), 14, 0, 0) := by decide +kernel
theorem at_23_14 : mm_at 23 14 = some ((.iload_n 1 : Instr), 15, 0, 0) := by decide +kernel
theorem at_23_15 : mm_at 23 15 = some ((.invokevirtual 167 : Instr), 18, 8, 2) := by decide +kernel
theorem at_23_18 : mm_at 23 18 = some ((.ifCond .eq (5) : Instr), 21, 23, 0) := by decide +kernel
theorem at_23_21 : mm_at 23 21 = some ((.iconst (1) : Instr), 22, 0, 0) := by decide +kernel
theorem at_23_22 : mm_at 23 22 = some ((.ireturn : Instr), 23, 1, 0) := by decide +kernel
theorem at_23_23 : mm_at 23 23 = some ((.aload_n 0 : Instr), 24, 0, 0) := by decide +kernel
theorem at_23_24 : mm_at 23 24 = some ((.iload_n 1 : Instr), 25, 0, 0) := by decide +kernel
theorem at_23_25 : mm_at 23 25 = some ((.iconst (1) : Instr), 26, 0, 0) := by decide +kernel
theorem at_23_26 : mm_at 23 26 = some ((.isub : Instr), 27, 0, 0) := by decide +kernel
theorem at_23_27 : mm_at 23 27 = some ((.invokevirtual 167 : Instr), 30, 8, 2) := by decide +kernel
theorem at_23_30 : mm_at 23 30 = some ((.ifCond .ne (13) : Instr), 33, 43, 0) := by decide +kernel
theorem at_23_33 : mm_at 23 33 = some ((.aload_n 0 : Instr), 34, 0, 0) := by decide +kernel
theorem at_23_34 : mm_at 23 34 = some ((.iload_n 1 : Instr), 35, 0, 0) := by decide +kernel
theorem at_23_35 : mm_at 23 35 = some ((.iconst (1) : Instr), 36, 0, 0) := by decide +kernel
theorem at_23_36 : mm_at 23 36 = some ((.iadd : Instr), 37, 0, 0) := by decide +kernel
theorem at_23_37 : mm_at 23 37 = some ((.invokevirtual 167 : Instr), 40, 8, 2) := by decide +kernel
theorem at_23_40 : mm_at 23 40 = some ((.ifCond .eq (5) : Instr), 43, 45, 0) := by decide +kernel
theorem at_23_43 : mm_at 23 43 = some ((.iconst (2) : Instr), 44, 0, 0) := by decide +kernel
theorem at_23_44 : mm_at 23 44 = some ((.ireturn : Instr), 45, 1, 0) := by decide +kernel
theorem at_23_45 : mm_at 23 45 = some ((.aload_n 0 : Instr), 46, 0, 0) := by decide +kernel
theorem at_23_46 : mm_at 23 46 = some ((.iload_n 1 : Instr), 47, 0, 0) := by decide +kernel
theorem at_23_47 : mm_at 23 47 = some ((.iconst (1) : Instr), 48, 0, 0) := by decide +kernel
theorem at_23_48 : mm_at 23 48 = some ((.isub : Instr), 49, 0, 0) := by decide +kernel
theorem at_23_49 : mm_at 23 49 = some ((.invokevirtual 47 : Instr), 52, 3, 2) := by decide +kernel
theorem at_23_52 : mm_at 23 52 = some ((.astore_n 2 : Instr), 53, 0, 0) := by decide +kernel
theorem at_23_53 : mm_at 23 53 = some ((.aload_n 0 : Instr), 54, 0, 0) := by decide +kernel
theorem at_23_54 : mm_at 23 54 = some ((.iload_n 1 : Instr), 55, 0, 0) := by decide +kernel
theorem at_23_55 : mm_at 23 55 = some ((.invokevirtual 47 : Instr), 58, 3, 2) := by decide +kernel
theorem at_23_58 : mm_at 23 58 = some ((.astore_n 3 : Instr), 59, 0, 0) := by decide +kernel
theorem at_23_59 : mm_at 23 59 = some ((.aload_n 2 : Instr), 60, 0, 0) := by decide +kernel
theorem at_23_60 : mm_at 23 60 = some ((.getfield 170 : Instr), 63, 1, 3) := by decide +kernel
theorem at_23_63 : mm_at 23 63 = some ((.getfield 41 : Instr), 66, 2, 3) := by decide +kernel
theorem at_23_66 : mm_at 23 66 = some ((.ifCond .eq (13) : Instr), 69, 79, 0) := by decide +kernel
theorem at_23_69 : mm_at 23 69 = some ((.aload_n 3 : Instr), 70, 0, 0) := by decide +kernel
theorem at_23_70 : mm_at 23 70 = some ((.getfield 174 : Instr), 73, 1, 4) := by decide +kernel
theorem at_23_73 : mm_at 23 73 = some ((.getfield 41 : Instr), 76, 2, 3) := by decide +kernel
theorem at_23_76 : mm_at 23 76 = some ((.ifCond .ne (5) : Instr), 79, 81, 0) := by decide +kernel
theorem at_23_79 : mm_at 23 79 = some ((.iconst (3) : Instr), 80, 0, 0) := by decide +kernel
theorem at_23_80 : mm_at 23 80 = some ((.ireturn : Instr), 81, 1, 0) := by decide +kernel
theorem at_23_81 : mm_at 23 81 = some ((.aload_n 0 : Instr), 82, 0, 0) := by decide +kernel
theorem at_23_82 : mm_at 23 82 = some ((.iload_n 1 : Instr), 83, 0, 0) := by decide +kernel
theorem at_23_83 : mm_at 23 83 = some ((.invokevirtual 177 : Instr), 86, 25, 2) := by decide +kernel
theorem at_23_86 : mm_at 23 86 = some ((.ifCond .eq (5) : Instr), 89, 91, 0) := by decide +kernel
theorem at_23_89 : mm_at 23 89 = some ((.iconst (4) : Instr), 90, 0, 0) := by decide +kernel
theorem at_23_90 : mm_at 23 90 = some ((.ireturn : Instr), 91, 1, 0) := by decide +kernel
theorem at_23_91 : mm_at 23 91 = some ((.aload_n 2 : Instr), 92, 0, 0) := by decide +kernel
theorem at_23_92 : mm_at 23 92 = some ((.invokevirtual 57 : Instr), 95, 43, 1) := by decide +kernel
theorem at_23_95 : mm_at 23 95 = some ((.ifCond .eq (10) : Instr), 98, 105, 0) := by decide +kernel
theorem at_23_98 : mm_at 23 98 = some ((.aload_n 3 : Instr), 99, 0, 0) := by decide +kernel
theorem at_23_99 : mm_at 23 99 = some ((.invokevirtual 57 : Instr), 102, 43, 1) := by decide +kernel
theorem at_23_102 : mm_at 23 102 = some ((.ifCond .ne (5) : Instr), 105, 107, 0) := by decide +kernel
theorem at_23_105 : mm_at 23 105 = some ((.iconst (5) : Instr), 106, 0, 0) := by decide +kernel
theorem at_23_106 : mm_at 23 106 = some ((.ireturn : Instr), 107, 1, 0) := by decide +kernel
theorem at_23_107 : mm_at 23 107 = some ((.aload_n 0 : Instr), 108, 0, 0) := by decide +kernel
theorem at_23_108 : mm_at 23 108 = some ((.getfield 13 : Instr), 111, 0, 1) := by decide +kernel
theorem at_23_111 : mm_at 23 111 = some ((.iload_n 1 : Instr), 112, 0, 0) := by decide +kernel
theorem at_23_112 : mm_at 23 112 = some ((.iconst (1) : Instr), 113, 0, 0) := by decide +kernel
theorem at_23_113 : mm_at 23 113 = some ((.bastore : Instr), 114, 0, 0) := by decide +kernel
theorem at_23_114 : mm_at 23 114 = some ((.iconst (0) : Instr), 115, 0, 0) := by decide +kernel
theorem at_23_115 : mm_at 23 115 = some ((.ireturn : Instr), 116, 1, 0) := by decide +kernel
theorem at_24_0 : mm_at 24 0 = some ((.aload_n 0 : Instr), 1, 0, 0) := by decide +kernel
theorem at_24_1 : mm_at 24 1 = some ((.bipush (10) : Instr), 3, 0, 0) := by decide +kernel
theorem at_24_3 : mm_at 24 3 = some ((.iload_n 1 : Instr), 4, 0, 0) := by decide +kernel
theorem at_24_4 : mm_at 24 4 = some ((.iadd : Instr), 5, 0, 0) := by decide +kernel
theorem at_24_5 : mm_at 24 5 = some ((.invokevirtual 194 : Instr), 8, 4, 2) := by decide +kernel
theorem at_24_8 : mm_at 24 8 = some ((.ireturn : Instr), 9, 2, 0) := by decide +kernel
theorem at_25_0 : mm_at 25 0 = some ((.aload_n 0 : Instr), 1, 0, 0) := by decide +kernel
theorem at_25_1 : mm_at 25 1 = some ((.iload_n 1 : Instr), 2, 0, 0) := by decide +kernel
theorem at_25_2 : mm_at 25 2 = some ((.iconst (1) : Instr), 3, 0, 0) := by decide +kernel
theorem at_25_3 : mm_at 25 3 = some ((.isub : Instr), 4, 0, 0) := by decide +kernel
theorem at_25_4 : mm_at 25 4 = some ((.invokevirtual 47 : Instr), 7, 3, 2) := by decide +kernel
theorem at_25_7 : mm_at 25 7 = some ((.getfield 51 : Instr), 10, 1, 6) := by decide +kernel
theorem at_25_10 : mm_at 25 10 = some ((.ifCond .eq (28) : Instr), 13, 38, 0) := by decide +kernel
theorem at_25_13 : mm_at 25 13 = some ((.aload_n 0 : Instr), 14, 0, 0) := by decide +kernel
theorem at_25_14 : mm_at 25 14 = some ((.iload_n 1 : Instr), 15, 0, 0) := by decide +kernel
theorem at_25_15 : mm_at 25 15 = some ((.invokevirtual 47 : Instr), 18, 3, 2) := by decide +kernel
theorem at_25_18 : mm_at 25 18 = some ((.getfield 51 : Instr), 21, 1, 6) := by decide +kernel
theorem at_25_21 : mm_at 25 21 = some ((.ifCond .eq (17) : Instr), 24, 38, 0) := by decide +kernel
theorem at_25_24 : mm_at 25 24 = some ((.aload_n 0 : Instr), 25, 0, 0) := by decide +kernel
theorem at_25_25 : mm_at 25 25 = some ((.bipush (10) : Instr), 27, 0, 0) := by decide +kernel
theorem at_25_27 : mm_at 25 27 = some ((.iload_n 1 : Instr), 28, 0, 0) := by decide +kernel
theorem at_25_28 : mm_at 25 28 = some ((.iadd : Instr), 29, 0, 0) := by decide +kernel
theorem at_25_29 : mm_at 25 29 = some ((.invokevirtual 47 : Instr), 32, 3, 2) := by decide +kernel
theorem at_25_32 : mm_at 25 32 = some ((.getfield 51 : Instr), 35, 1, 6) := by decide +kernel
theorem at_25_35 : mm_at 25 35 = some ((.ifCond .ne (7) : Instr), 38, 42, 0) := by decide +kernel
theorem at_25_38 : mm_at 25 38 = some ((.iconst (1) : Instr), 39, 0, 0) := by decide +kernel
theorem at_25_39 : mm_at 25 39 = some ((.goto (4) : Instr), 42, 43, 0) := by decide +kernel
theorem at_25_42 : mm_at 25 42 = some ((.iconst (0) : Instr), 43, 0, 0) := by decide +kernel
theorem at_25_43 : mm_at 25 43 = some ((.ireturn : Instr), 44, 2, 0) := by decide +kernel
theorem at_26_0 : mm_at 26 0 = some ((.aload_n 0 : Instr), 1, 0, 0) := by decide +kernel
theorem at_26_1 : mm_at 26 1 = some ((.iload_n 1 : Instr), 2, 0, 0) := by decide +kernel
theorem at_26_2 : mm_at 26 2 = some ((.invokevirtual 114 : Instr), 5, 15, 2) := by decide +kernel
theorem at_26_5 : mm_at 26 5 = some ((.aload_n 0 : Instr), 6, 0, 0) := by decide +kernel
theorem at_26_6 : mm_at 26 6 = some ((.iload_n 1 : Instr), 7, 0, 0) := by decide +kernel
theorem at_26_7 : mm_at 26 7 = some ((.invokevirtual 167 : Instr), 10, 8, 2) := by decide +kernel
theorem at_26_10 : mm_at 26 10 = some ((.ifCond .ne (5) : Instr), 13, 15, 0) := by decide +kernel
theorem at_26_13 : mm_at 26 13 = some ((.iconst (1) : Instr), 14, 0, 0) := by decide +kernel
theorem at_26_14 : mm_at 26 14 = some ((.ireturn : Instr), 15, 1, 0) := by decide +kernel
theorem at_26_15 : mm_at 26 15 = some ((.aload_n 0 : Instr), 16, 0, 0) := by decide +kernel
theorem at_26_16 : mm_at 26 16 = some ((.bipush (10) : Instr), 18, 0, 0) := by decide +kernel
theorem at_26_18 : mm_at 26 18 = some ((.iload_n 1 : Instr), 19, 0, 0) := by decide +kernel
theorem at_26_19 : mm_at 26 19 = some ((.iadd : Instr), 20, 0, 0) := by decide +kernel
theorem at_26_20 : mm_at 26 20 = some ((.invokevirtual 47 : Instr), 23, 3, 2) := by decide +kernel
theorem at_26_23 : mm_at 26 23 = some ((.astore_n 2 : Instr), 24, 0, 0) := by decide +kernel
theorem at_26_24 : mm_at 26 24 = some ((.aload_n 2 : Instr), 25, 0, 0) := by decide +kernel
theorem at_26_25 : mm_at 26 25 = some ((.getfield 170 : Instr), 28, 1, 3) := by decide +kernel
theorem at_26_28 : mm_at 26 28 = some ((.getfield 41 : Instr), 31, 2, 3) := by decide +kernel
theorem at_26_31 : mm_at 26 31 = some ((.ifCond .eq (13) : Instr), 34, 44, 0) := by decide +kernel
theorem at_26_34 : mm_at 26 34 = some ((.aload_n 2 : Instr), 35, 0, 0) := by decide +kernel
theorem at_26_35 : mm_at 26 35 = some ((.getfield 174 : Instr), 38, 1, 4) := by decide +kernel
theorem at_26_38 : mm_at 26 38 = some ((.getfield 41 : Instr), 41, 2, 3) := by decide +kernel
theorem at_26_41 : mm_at 26 41 = some ((.ifCond .ne (5) : Instr), 44, 46, 0) := by decide +kernel
theorem at_26_44 : mm_at 26 44 = some ((.iconst (3) : Instr), 45, 0, 0) := by decide +kernel
theorem at_26_45 : mm_at 26 45 = some ((.ireturn : Instr), 46, 1, 0) := by decide +kernel
theorem at_26_46 : mm_at 26 46 = some ((.aload_n 0 : Instr), 47, 0, 0) := by decide +kernel
theorem at_26_47 : mm_at 26 47 = some ((.iload_n 1 : Instr), 48, 0, 0) := by decide +kernel
theorem at_26_48 : mm_at 26 48 = some ((.invokevirtual 177 : Instr), 51, 25, 2) := by decide +kernel
theorem at_26_51 : mm_at 26 51 = some ((.ifCond .eq (5) : Instr), 54, 56, 0) := by decide +kernel
theorem at_26_54 : mm_at 26 54 = some ((.iconst (4) : Instr), 55, 0, 0) := by decide +kernel
theorem at_26_55 : mm_at 26 55 = some ((.ireturn : Instr), 56, 1, 0) := by decide +kernel
theorem at_26_56 : mm_at 26 56 = some ((.aload_n 2 : Instr), 57, 0, 0) := by decide +kernel
theorem at_26_57 : mm_at 26 57 = some ((.invokevirtual 57 : Instr), 60, 43, 1) := by decide +kernel
theorem at_26_60 : mm_at 26 60 = some ((.ifCond .ne (5) : Instr), 63, 65, 0) := by decide +kernel
theorem at_26_63 : mm_at 26 63 = some ((.iconst (5) : Instr), 64, 0, 0) := by decide +kernel
theorem at_26_64 : mm_at 26 64 = some ((.ireturn : Instr), 65, 1, 0) := by decide +kernel
theorem at_26_65 : mm_at 26 65 = some ((.aload_n 0 : Instr), 66, 0, 0) := by decide +kernel
theorem at_26_66 : mm_at 26 66 = some ((.getfield 13 : Instr), 69, 0, 1) := by decide +kernel
theorem at_26_69 : mm_at 26 69 = some ((.iload_n 1 : Instr), 70, 0, 0) := by decide +kernel
theorem at_26_70 : mm_at 26 70 = some ((.iconst (0) : Instr), 71, 0, 0) := by decide +kernel
theorem at_26_71 : mm_at 26 71 = some ((.bastore : Instr), 72, 0, 0) := by decide +kernel
theorem at_26_72 : mm_at 26 72 = some ((.iconst (0) : Instr), 73, 0, 0) := by decide +kernel
theorem at_26_73 : mm_at 26 73 = some ((.ireturn : Instr), 74, 1, 0) := by decide +kernel
theorem at_27_0 : mm_at 27 0 = some ((.aload_n 0 : Instr), 1, 0, 0) := by decide +kernel
theorem at_27_1 : mm_at 27 1 = some ((.iload_n 1 : Instr), 2, 0, 0) := by decide +kernel
theorem at_27_2 : mm_at 27 2 = some ((.iload_n 2 : Instr), 3, 0, 0) := by decide +kernel
theorem at_27_3 : mm_at 27 3 = some ((.invokevirtual 33 : Instr), 6, 2, 3) := by decide +kernel
theorem at_27_6 : mm_at 27 6 = some ((.astore 4 : Instr), 8, 0, 0) := by decide +kernel
theorem at_27_8 : mm_at 27 8 = some ((.iload_n 3 : Instr), 9, 0, 0) := by decide +kernel
theorem at_27_9 : mm_at 27 9 = some ((.iconst (2) : Instr), 10, 0, 0) := by decide +kernel
theorem at_27_10 : mm_at 27 10 = some ((.if_icmp .lt (9) : Instr), 13, 19, 0) := by decide +kernel
theorem at_27_13 : mm_at 27 13 = some ((.iload_n 3 : Instr), 14, 0, 0) := by decide +kernel
theorem at_27_14 : mm_at 27 14 = some ((.iconst (2) : Instr), 15, 0, 0) := by decide +kernel
theorem at_27_15 : mm_at 27 15 = some ((.irem : Instr), 16, 0, 0) := by decide +kernel
theorem at_27_16 : mm_at 27 16 = some ((.ifCond .eq (13) : Instr), 19, 29, 0) := by decide +kernel
theorem at_27_19 : mm_at 27 19 = some ((.new 82 : Instr), 22, 20, 0) := by decide +kernel
theorem at_27_29 : mm_at 27 29 = some ((.aload 4 : Instr), 31, 0, 0) := by decide +kernel
theorem at_27_31 : mm_at 27 31 = some ((.invokevirtual 57 : Instr), 34, 43, 1) := by decide +kernel
theorem at_27_34 : mm_at 27 34 = some ((.ifCond .ne (13) : Instr), 37, 47, 0) := by decide +kernel
theorem at_27_37 : mm_at 27 37 = some ((.new 100 : Instr), 40, 21, 0) := by decide +kernel
theorem at_27_47 : mm_at 27 47 = some ((.aload 4 : Instr), 49, 0, 0) := by decide +kernel
theorem at_27_49 : mm_at 27 49 = some ((.iload_n 2 : Instr), 50, 0, 0) := by decide +kernel
theorem at_27_50 : mm_at 27 50 = some ((.invokevirtual 37 : Instr), 53, 36, 2) := by decide +kernel
theorem at_27_53 : mm_at 27 53 = some ((.astore 5 : Instr), 55, 0, 0) := by decide +kernel
theorem at_27_55 : mm_at 27 55 = some ((.aload 5 : Instr), 57, 0, 0) := by decide +kernel
theorem at_27_57 : mm_at 27 57 = some ((.getfield 61 : Instr), 60, 2, 1) := by decide +kernel
theorem at_27_60 : mm_at 27 60 = some ((.iload_n 3 : Instr), 61, 0, 0) := by decide +kernel
theorem at_27_61 : mm_at 27 61 = some ((.if_icmp .ge (13) : Instr), 64, 74, 0) := by decide +kernel
theorem at_27_64 : mm_at 27 64 = some ((.new 151 : Instr), 67, 23, 0) := by decide +kernel
theorem at_27_74 : mm_at 27 74 = some ((.aload 4 : Instr), 76, 0, 0) := by decide +kernel
theorem at_27_76 : mm_at 27 76 = some ((.iload_n 2 : Instr), 77, 0, 0) := by decide +kernel
theorem at_27_77 : mm_at 27 77 = some ((.invokevirtual 186 : Instr), 80, 42, 2) := by decide +kernel
theorem at_27_80 : mm_at 27 80 = some ((.istore 6 : Instr), 82, 0, 0) := by decide +kernel
theorem at_27_82 : mm_at 27 82 = some ((.iconst (0) : Instr), 83, 0, 0) := by decide +kernel
theorem at_27_83 : mm_at 27 83 = some ((.istore 7 : Instr), 85, 0, 0) := by decide +kernel
theorem at_27_85 : mm_at 27 85 = some ((.iload 7 : Instr), 87, 0, 0) := by decide +kernel
theorem at_27_87 : mm_at 27 87 = some ((.iload_n 3 : Instr), 88, 0, 0) := by decide +kernel
theorem at_27_88 : mm_at 27 88 = some ((.if_icmp .ge (21) : Instr), 91, 109, 0) := by decide +kernel
theorem at_27_91 : mm_at 27 91 = some ((.aload 4 : Instr), 93, 0, 0) := by decide +kernel
theorem at_27_93 : mm_at 27 93 = some ((.iload 6 : Instr), 95, 0, 0) := by decide +kernel
theorem at_27_95 : mm_at 27 95 = some ((.aload 5 : Instr), 97, 0, 0) := by decide +kernel
theorem at_27_97 : mm_at 27 97 = some ((.invokevirtual 68 : Instr), 100, 47, 1) := by decide +kernel
theorem at_27_100 : mm_at 27 100 = some ((.invokevirtual 108 : Instr), 103, 35, 3) := by decide +kernel
theorem at_27_103 : mm_at 27 103 = some ((.iinc 7 (1) : Instr), 106, 0, 0) := by decide +kernel
theorem at_27_106 : mm_at 27 106 = some ((.goto (-21) : Instr), 109, 85, 0) := by decide +kernel
theorem at_27_109 : mm_at 27 109 = some ((.return_ : Instr), 110, 0, 0) := by decide +kernel
theorem at_28_0 : mm_at 28 0 = some ((.aload_n 0 : Instr), 1, 0, 0) := by decide +kernel
theorem at_28_1 : mm_at 28 1 = some ((.iload_n 2 : Instr), 2, 0, 0) := by decide +kernel
theorem at_28_2 : mm_at 28 2 = some ((.iload_n 1 : Instr), 3, 0, 0) := by decide +kernel
theorem at_28_3 : mm_at 28 3 = some ((.invokevirtual 33 : Instr), 6, 2, 3) := by decide +kernel
theorem at_28_6 : mm_at 28 6 = some ((.iload_n 1 : Instr), 7, 0, 0) := by decide +kernel
theorem at_28_7 : mm_at 28 7 = some ((.invokevirtual 37 : Instr), 10, 36, 2) := by decide +kernel
theorem at_28_10 : mm_at 28 10 = some ((.getfield 189 : Instr), 13, 2, 2) := by decide +kernel
theorem at_28_13 : mm_at 28 13 = some ((.ireturn : Instr), 14, 1, 0) := by decide +kernel
theorem at_29_0 : mm_at 29 0 = some ((.aload_n 0 : Instr), 1, 0, 0) := by decide +kernel
theorem at_29_1 : mm_at 29 1 = some ((.iload_n 2 : Instr), 2, 0, 0) := by decide +kernel
theorem at_29_2 : mm_at 29 2 = some ((.iload_n 1 : Instr), 3, 0, 0) := by decide +kernel
theorem at_29_3 : mm_at 29 3 = some ((.invokevirtual 33 : Instr), 6, 2, 3) := by decide +kernel
theorem at_29_6 : mm_at 29 6 = some ((.iload_n 1 : Instr), 7, 0, 0) := by decide +kernel
theorem at_29_7 : mm_at 29 7 = some ((.invokevirtual 37 : Instr), 10, 36, 2) := by decide +kernel
theorem at_29_10 : mm_at 29 10 = some ((.getfield 61 : Instr), 13, 2, 1) := by decide +kernel
theorem at_29_13 : mm_at 29 13 = some ((.ireturn : Instr), 14, 1, 0) := by decide +kernel
theorem at_30_0 : mm_at 30 0 = some ((.aload_n 0 : Instr), 1, 0, 0) := by decide +kernel
theorem at_30_1 : mm_at 30 1 = some ((.iload_n 1 : Instr), 2, 0, 0) := by decide +kernel
theorem at_30_2 : mm_at 30 2 = some ((.invokevirtual 79 : Instr), 5, 11, 2) := by decide +kernel
theorem at_30_5 : mm_at 30 5 = some ((.iload_n 1 : Instr), 6, 0, 0) := by decide +kernel
theorem at_30_6 : mm_at 30 6 = some ((.invokevirtual 89 : Instr), 9, 44, 2) := by decide +kernel
theorem at_30_9 : mm_at 30 9 = some ((.ireturn : Instr), 10, 1, 0) := by decide +kernel
theorem at_31_0 : mm_at 31 0 = some ((.aload_n 0 : Instr), 1, 0, 0) := by decide +kernel
theorem at_31_1 : mm_at 31 1 = some ((.iload_n 1 : Instr), 2, 0, 0) := by decide +kernel
theorem at_31_2 : mm_at 31 2 = some ((.invokevirtual 111 : Instr), 5, 14, 2) := by decide +kernel
theorem at_31_5 : mm_at 31 5 = some ((.astore_n 2 : Instr), 6, 0, 0) := by decide +kernel
theorem at_31_6 : mm_at 31 6 = some ((.aload_n 2 : Instr), 7, 0, 0) := by decide +kernel
theorem at_31_7 : mm_at 31 7 = some ((.getfield 118 : Instr), 10, 3, 0) := by decide +kernel
theorem at_31_10 : mm_at 31 10 = some ((.ifCond .ne (5) : Instr), 13, 15, 0) := by decide +kernel
theorem at_31_13 : mm_at 31 13 = some ((.iconst (-1) : Instr), 14, 0, 0) := by decide +kernel
theorem at_31_14 : mm_at 31 14 = some ((.ireturn : Instr), 15, 1, 0) := by decide +kernel
theorem at_31_15 : mm_at 31 15 = some ((.aload_n 2 : Instr), 16, 0, 0) := by decide +kernel
theorem at_31_16 : mm_at 31 16 = some ((.getfield 156 : Instr), 19, 3, 2) := by decide +kernel
theorem at_31_19 : mm_at 31 19 = some ((.iconst (-1) : Instr), 20, 0, 0) := by decide +kernel
theorem at_31_20 : mm_at 31 20 = some ((.if_icmp .ne (10) : Instr), 23, 30, 0) := by decide +kernel
theorem at_31_23 : mm_at 31 23 = some ((.aload_n 2 : Instr), 24, 0, 0) := by decide +kernel
theorem at_31_24 : mm_at 31 24 = some ((.getfield 97 : Instr), 27, 3, 1) := by decide +kernel
theorem at_31_27 : mm_at 31 27 = some ((.goto (10) : Instr), 30, 37, 0) := by decide +kernel
theorem at_31_30 : mm_at 31 30 = some ((.bipush (10) : Instr), 32, 0, 0) := by decide +kernel
theorem at_31_32 : mm_at 31 32 = some ((.aload_n 2 : Instr), 33, 0, 0) := by decide +kernel
theorem at_31_33 : mm_at 31 33 = some ((.getfield 156 : Instr), 36, 3, 2) := by decide +kernel
theorem at_31_36 : mm_at 31 36 = some ((.iadd : Instr), 37, 0, 0) := by decide +kernel
theorem at_31_37 : mm_at 31 37 = some ((.ireturn : Instr), 38, 1, 0) := by decide +kernel
theorem at_32_0 : mm_at 32 0 = some ((.aload_n 0 : Instr), 1, 0, 0) := by decide +kernel
theorem at_32_1 : mm_at 32 1 = some ((.iload_n 1 : Instr), 2, 0, 0) := by decide +kernel
theorem at_32_2 : mm_at 32 2 = some ((.iload_n 2 : Instr), 3, 0, 0) := by decide +kernel
theorem at_32_3 : mm_at 32 3 = some ((.invokevirtual 33 : Instr), 6, 2, 3) := by decide +kernel
theorem at_32_6 : mm_at 32 6 = some ((.astore_n 3 : Instr), 7, 0, 0) := by decide +kernel
theorem at_32_7 : mm_at 32 7 = some ((.aload_n 3 : Instr), 8, 0, 0) := by decide +kernel
theorem at_32_8 : mm_at 32 8 = some ((.invokevirtual 57 : Instr), 11, 43, 1) := by decide +kernel
theorem at_32_11 : mm_at 32 11 = some ((.ifCond .eq (14) : Instr), 14, 25, 0) := by decide +kernel
theorem at_32_14 : mm_at 32 14 = some ((.aload_n 3 : Instr), 15, 0, 0) := by decide +kernel
theorem at_32_15 : mm_at 32 15 = some ((.iload_n 2 : Instr), 16, 0, 0) := by decide +kernel
theorem at_32_16 : mm_at 32 16 = some ((.invokevirtual 37 : Instr), 19, 36, 2) := by decide +kernel
theorem at_32_19 : mm_at 32 19 = some ((.getfield 61 : Instr), 22, 2, 1) := by decide +kernel
theorem at_32_22 : mm_at 32 22 = some ((.goto (4) : Instr), 25, 26, 0) := by decide +kernel
theorem at_32_25 : mm_at 32 25 = some ((.iconst (0) : Instr), 26, 0, 0) := by decide +kernel
theorem at_32_26 : mm_at 32 26 = some ((.ireturn : Instr), 27, 1, 0) := by decide +kernel
theorem at_33_0 : mm_at 33 0 = some ((.aload_n 0 : Instr), 1, 0, 0) := by decide +kernel
theorem at_33_1 : mm_at 33 1 = some ((.iload_n 1 : Instr), 2, 0, 0) := by decide +kernel
theorem at_33_2 : mm_at 33 2 = some ((.invokevirtual 114 : Instr), 5, 15, 2) := by decide +kernel
theorem at_33_5 : mm_at 33 5 = some ((.aload_n 0 : Instr), 6, 0, 0) := by decide +kernel
theorem at_33_6 : mm_at 33 6 = some ((.iload_n 1 : Instr), 7, 0, 0) := by decide +kernel
theorem at_33_7 : mm_at 33 7 = some ((.invokevirtual 167 : Instr), 10, 8, 2) := by decide +kernel
theorem at_33_10 : mm_at 33 10 = some ((.ireturn : Instr), 11, 2, 0) := by decide +kernel
theorem at_34_0 : mm_at 34 0 = some ((.aload_n 0 : Instr), 1, 0, 0) := by decide +kernel
theorem at_34_1 : mm_at 34 1 = some ((.invokespecial 3 : Instr), 4, 1000, 0) := by decide +kernel
theorem at_34_4 : mm_at 34 4 = some ((.aload_n 0 : Instr), 5, 0, 0) := by decide +kernel
theorem at_34_5 : mm_at 34 5 = some ((.iload_n 1 : Instr), 6, 0, 0) := by decide +kernel
theorem at_34_6 : mm_at 34 6 = some ((.putfield 9 : Instr), 9, 1, 0) := by decide +kernel
theorem at_34_9 : mm_at 34 9 = some ((.aload_n 0 : Instr), 10, 0, 0) := by decide +kernel
theorem at_34_10 : mm_at 34 10 = some ((.iload_n 2 : Instr), 11, 0, 0) := by decide +kernel
theorem at_34_11 : mm_at 34 11 = some ((.putfield 15 : Instr), 14, 1, 1) := by decide +kernel
theorem at_34_14 : mm_at 34 14 = some ((.aload_n 0 : Instr), 15, 0, 0) := by decide +kernel
theorem at_34_15 : mm_at 34 15 = some ((.iload_n 3 : Instr), 16, 0, 0) := by decide +kernel
theorem at_34_16 : mm_at 34 16 = some ((.putfield 18 : Instr), 19, 1, 2) := by decide +kernel
theorem at_34_19 : mm_at 34 19 = some ((.aload_n 0 : Instr), 20, 0, 0) := by decide +kernel
theorem at_34_20 : mm_at 34 20 = some ((.new 21 : Instr), 23, 2, 0) := by decide +kernel
theorem at_34_23 : mm_at 34 23 = some ((.dup : Instr), 24, 0, 0) := by decide +kernel
theorem at_34_24 : mm_at 34 24 = some ((.iload 4 : Instr), 26, 0, 0) := by decide +kernel
theorem at_34_26 : mm_at 34 26 = some ((.invokespecial 23 : Instr), 29, 45, 2) := by decide +kernel
theorem at_34_29 : mm_at 34 29 = some ((.putfield 26 : Instr), 32, 1, 3) := by decide +kernel
theorem at_34_32 : mm_at 34 32 = some ((.aload_n 0 : Instr), 33, 0, 0) := by decide +kernel
theorem at_34_33 : mm_at 34 33 = some ((.new 21 : Instr), 36, 2, 0) := by decide +kernel
theorem at_34_36 : mm_at 34 36 = some ((.dup : Instr), 37, 0, 0) := by decide +kernel
theorem at_34_37 : mm_at 34 37 = some ((.iload 4 : Instr), 39, 0, 0) := by decide +kernel
theorem at_34_39 : mm_at 34 39 = some ((.invokespecial 23 : Instr), 42, 45, 2) := by decide +kernel
theorem at_34_42 : mm_at 34 42 = some ((.putfield 30 : Instr), 45, 1, 4) := by decide +kernel
theorem at_34_45 : mm_at 34 45 = some ((.aload_n 0 : Instr), 46, 0, 0) := by decide +kernel
theorem at_34_46 : mm_at 34 46 = some ((.iload 4 : Instr), 48, 0, 0) := by decide +kernel
theorem at_34_48 : mm_at 34 48 = some ((.newarray .int : Instr), 50, 10, 0) := by decide +kernel
theorem at_34_50 : mm_at 34 50 = some ((.putfield 33 : Instr), 53, 1, 5) := by decide +kernel
theorem at_34_53 : mm_at 34 53 = some ((.aload_n 0 : Instr), 54, 0, 0) := by decide +kernel
theorem at_34_54 : mm_at 34 54 = some ((.iconst (1) : Instr), 55, 0, 0) := by decide +kernel
theorem at_34_55 : mm_at 34 55 = some ((.putfield 37 : Instr), 58, 1, 6) := by decide +kernel
theorem at_34_58 : mm_at 34 58 = some ((.iconst (0) : Instr), 59, 0, 0) := by decide +kernel
theorem at_34_59 : mm_at 34 59 = some ((.istore 5 : Instr), 61, 0, 0) := by decide +kernel
theorem at_34_61 : mm_at 34 61 = some ((.iload 5 : Instr), 63, 0, 0) := by decide +kernel
theorem at_34_63 : mm_at 34 63 = some ((.iload 4 : Instr), 65, 0, 0) := by decide +kernel
theorem at_34_65 : mm_at 34 65 = some ((.if_icmp .ge (32) : Instr), 68, 97, 0) := by decide +kernel
theorem at_34_68 : mm_at 34 68 = some ((.aload_n 0 : Instr), 69, 0, 0) := by decide +kernel
theorem at_34_69 : mm_at 34 69 = some ((.iload 5 : Instr), 71, 0, 0) := by decide +kernel
theorem at_34_71 : mm_at 34 71 = some ((.iconst (2) : Instr), 72, 0, 0) := by decide +kernel
theorem at_34_72 : mm_at 34 72 = some ((.irem : Instr), 73, 0, 0) := by decide +kernel
theorem at_34_73 : mm_at 34 73 = some ((.ifCond .ne (7) : Instr), 76, 80, 0) := by decide +kernel
theorem at_34_76 : mm_at 34 76 = some ((.iload_n 2 : Instr), 77, 0, 0) := by decide +kernel
theorem at_34_77 : mm_at 34 77 = some ((.goto (4) : Instr), 80, 81, 0) := by decide +kernel
theorem at_34_80 : mm_at 34 80 = some ((.iload_n 3 : Instr), 81, 0, 0) := by decide +kernel
theorem at_34_81 : mm_at 34 81 = some ((.iload_n 1 : Instr), 82, 0, 0) := by decide +kernel
theorem at_34_82 : mm_at 34 82 = some ((.bipush (100) : Instr), 84, 0, 0) := by decide +kernel
theorem at_34_84 : mm_at 34 84 = some ((.imul : Instr), 85, 0, 0) := by decide +kernel
theorem at_34_85 : mm_at 34 85 = some ((.iload 5 : Instr), 87, 0, 0) := by decide +kernel
theorem at_34_87 : mm_at 34 87 = some ((.iadd : Instr), 88, 0, 0) := by decide +kernel
theorem at_34_88 : mm_at 34 88 = some ((.invokevirtual 41 : Instr), 91, 35, 3) := by decide +kernel
theorem at_34_91 : mm_at 34 91 = some ((.iinc 5 (1) : Instr), 94, 0, 0) := by decide +kernel
theorem at_34_94 : mm_at 34 94 = some ((.goto (-33) : Instr), 97, 61, 0) := by decide +kernel
theorem at_34_97 : mm_at 34 97 = some ((.return_ : Instr), 98, 0, 0) := by decide +kernel
theorem at_35_0 : mm_at 35 0 = some ((.aload_n 0 : Instr), 1, 0, 0) := by decide +kernel
theorem at_35_1 : mm_at 35 1 = some ((.iload_n 1 : Instr), 2, 0, 0) := by decide +kernel
theorem at_35_2 : mm_at 35 2 = some ((.invokevirtual 49 : Instr), 5, 36, 2) := by decide +kernel
theorem at_35_5 : mm_at 35 5 = some ((.iload_n 2 : Instr), 6, 0, 0) := by decide +kernel
theorem at_35_6 : mm_at 35 6 = some ((.invokevirtual 63 : Instr), 9, 46, 2) := by decide +kernel
theorem at_35_9 : mm_at 35 9 = some ((.aload_n 0 : Instr), 10, 0, 0) := by decide +kernel
theorem at_35_10 : mm_at 35 10 = some ((.iload_n 2 : Instr), 11, 0, 0) := by decide +kernel
theorem at_35_11 : mm_at 35 11 = some ((.iload_n 1 : Instr), 12, 0, 0) := by decide +kernel
theorem at_35_12 : mm_at 35 12 = some ((.aload_n 0 : Instr), 13, 0, 0) := by decide +kernel
theorem at_35_13 : mm_at 35 13 = some ((.getfield 15 : Instr), 16, 1, 1) := by decide +kernel
theorem at_35_16 : mm_at 35 16 = some ((.if_icmp .ne (7) : Instr), 19, 23, 0) := by decide +kernel
theorem at_35_19 : mm_at 35 19 = some ((.iconst (0) : Instr), 20, 0, 0) := by decide +kernel
theorem at_35_20 : mm_at 35 20 = some ((.goto (4) : Instr), 23, 24, 0) := by decide +kernel
theorem at_35_23 : mm_at 35 23 = some ((.iconst (1) : Instr), 24, 0, 0) := by decide +kernel
theorem at_35_24 : mm_at 35 24 = some ((.invokevirtual 66 : Instr), 27, 37, 3) := by decide +kernel
theorem at_35_27 : mm_at 35 27 = some ((.return_ : Instr), 28, 0, 0) := by decide +kernel
theorem at_36_0 : mm_at 36 0 = some ((.iload_n 1 : Instr), 1, 0, 0) := by decide +kernel
theorem at_36_1 : mm_at 36 1 = some ((.aload_n 0 : Instr), 2, 0, 0) := by decide +kernel
theorem at_36_2 : mm_at 36 2 = some ((.getfield 15 : Instr), 5, 1, 1) := by decide +kernel
theorem at_36_5 : mm_at 36 5 = some ((.if_icmp .ne (10) : Instr), 8, 15, 0) := by decide +kernel
theorem at_36_8 : mm_at 36 8 = some ((.aload_n 0 : Instr), 9, 0, 0) := by decide +kernel
theorem at_36_9 : mm_at 36 9 = some ((.getfield 26 : Instr), 12, 1, 3) := by decide +kernel
theorem at_36_12 : mm_at 36 12 = some ((.goto (7) : Instr), 15, 19, 0) := by decide +kernel
theorem at_36_15 : mm_at 36 15 = some ((.aload_n 0 : Instr), 16, 0, 0) := by decide +kernel
theorem at_36_16 : mm_at 36 16 = some ((.getfield 30 : Instr), 19, 1, 4) := by decide +kernel
theorem at_36_19 : mm_at 36 19 = some ((.areturn : Instr), 20, 0, 0) := by decide +kernel
theorem at_37_0 : mm_at 37 0 = some ((.aload_n 0 : Instr), 1, 0, 0) := by decide +kernel
theorem at_37_1 : mm_at 37 1 = some ((.iload_n 1 : Instr), 2, 0, 0) := by decide +kernel
theorem at_37_2 : mm_at 37 2 = some ((.invokevirtual 59 : Instr), 5, 38, 2) := by decide +kernel
theorem at_37_5 : mm_at 37 5 = some ((.ifCond .eq (14) : Instr), 8, 19, 0) := by decide +kernel
theorem at_37_8 : mm_at 37 8 = some ((.aload_n 0 : Instr), 9, 0, 0) := by decide +kernel
theorem at_37_9 : mm_at 37 9 = some ((.getfield 33 : Instr), 12, 1, 5) := by decide +kernel
theorem at_37_12 : mm_at 37 12 = some ((.aload_n 0 : Instr), 13, 0, 0) := by decide +kernel
theorem at_37_13 : mm_at 37 13 = some ((.iload_n 1 : Instr), 14, 0, 0) := by decide +kernel
theorem at_37_14 : mm_at 37 14 = some ((.invokevirtual 56 : Instr), 17, 39, 2) := by decide +kernel
theorem at_37_17 : mm_at 37 17 = some ((.iload_n 2 : Instr), 18, 0, 0) := by decide +kernel
theorem at_37_18 : mm_at 37 18 = some ((.iastore : Instr), 19, 0, 0) := by decide +kernel
theorem at_37_19 : mm_at 37 19 = some ((.return_ : Instr), 20, 0, 0) := by decide +kernel
theorem at_38_0 : mm_at 38 0 = some ((.aload_n 0 : Instr), 1, 0, 0) := by decide +kernel
theorem at_38_1 : mm_at 38 1 = some ((.iload_n 1 : Instr), 2, 0, 0) := by decide +kernel
theorem at_38_2 : mm_at 38 2 = some ((.invokevirtual 56 : Instr), 5, 39, 2) := by decide +kernel
theorem at_38_5 : mm_at 38 5 = some ((.istore_n 2 : Instr), 6, 0, 0) := by decide +kernel
theorem at_38_6 : mm_at 38 6 = some ((.iload_n 2 : Instr), 7, 0, 0) := by decide +kernel
theorem at_38_7 : mm_at 38 7 = some ((.ifCond .lt (16) : Instr), 10, 23, 0) := by decide +kernel
theorem at_38_10 : mm_at 38 10 = some ((.iload_n 2 : Instr), 11, 0, 0) := by decide +kernel
theorem at_38_11 : mm_at 38 11 = some ((.aload_n 0 : Instr), 12, 0, 0) := by decide +kernel
theorem at_38_12 : mm_at 38 12 = some ((.getfield 33 : Instr), 15, 1, 5) := by decide +kernel
theorem at_38_15 : mm_at 38 15 = some ((.arraylength : Instr), 16, 0, 0) := by decide +kernel
theorem at_38_16 : mm_at 38 16 = some ((.if_icmp .ge (7) : Instr), 19, 23, 0) := by decide +kernel
theorem at_38_19 : mm_at 38 19 = some ((.iconst (1) : Instr), 20, 0, 0) := by decide +kernel
theorem at_38_20 : mm_at 38 20 = some ((.goto (4) : Instr), 23, 24, 0) := by decide +kernel
theorem at_38_23 : mm_at 38 23 = some ((.iconst (0) : Instr), 24, 0, 0) := by decide +kernel
theorem at_38_24 : mm_at 38 24 = some ((.ireturn : Instr), 25, 2, 0) := by decide +kernel
theorem at_39_0 : mm_at 39 0 = some ((.iload_n 1 : Instr), 1, 0, 0) := by decide +kernel
theorem at_39_1 : mm_at 39 1 = some ((.aload_n 0 : Instr), 2, 0, 0) := by decide +kernel
theorem at_39_2 : mm_at 39 2 = some ((.getfield 9 : Instr), 5, 1, 0) := by decide +kernel
theorem at_39_5 : mm_at 39 5 = some ((.bipush (100) : Instr), 7, 0, 0) := by decide +kernel
theorem at_39_7 : mm_at 39 7 = some ((.imul : Instr), 8, 0, 0) := by decide +kernel
theorem at_39_8 : mm_at 39 8 = some ((.isub : Instr), 9, 0, 0) := by decide +kernel
theorem at_39_9 : mm_at 39 9 = some ((.ireturn : Instr), 10, 1, 0) := by decide +kernel
theorem at_40_0 : mm_at 40 0 = some ((.iload_n 1 : Instr), 1, 0, 0) := by decide +kernel
theorem at_40_1 : mm_at 40 1 = some ((.aload_n 0 : Instr), 2, 0, 0) := by decide +kernel
theorem at_40_2 : mm_at 40 2 = some ((.getfield 15 : Instr), 5, 1, 1) := by decide +kernel
theorem at_40_5 : mm_at 40 5 = some ((.if_icmp .eq (11) : Instr), 8, 16, 0) := by decide +kernel
theorem at_40_8 : mm_at 40 8 = some ((.iload_n 1 : Instr), 9, 0, 0) := by decide +kernel
theorem at_40_9 : mm_at 40 9 = some ((.aload_n 0 : Instr), 10, 0, 0) := by decide +kernel
theorem at_40_10 : mm_at 40 10 = some ((.getfield 18 : Instr), 13, 1, 2) := by decide +kernel
theorem at_40_13 : mm_at 40 13 = some ((.if_icmp .ne (7) : Instr), 16, 20, 0) := by decide +kernel
theorem at_40_16 : mm_at 40 16 = some ((.iconst (1) : Instr), 17, 0, 0) := by decide +kernel
theorem at_40_17 : mm_at 40 17 = some ((.goto (4) : Instr), 20, 21, 0) := by decide +kernel
theorem at_40_20 : mm_at 40 20 = some ((.iconst (0) : Instr), 21, 0, 0) := by decide +kernel
theorem at_40_21 : mm_at 40 21 = some ((.ireturn : Instr), 22, 2, 0) := by decide +kernel
theorem at_41_0 : mm_at 41 0 = some ((.aload_n 0 : Instr), 1, 0, 0) := by decide +kernel
theorem at_41_1 : mm_at 41 1 = some ((.aload_n 0 : Instr), 2, 0, 0) := by decide +kernel
theorem at_41_2 : mm_at 41 2 = some ((.iload_n 1 : Instr), 3, 0, 0) := by decide +kernel
theorem at_41_3 : mm_at 41 3 = some ((.invokevirtual 45 : Instr), 6, 42, 2) := by decide +kernel
theorem at_41_6 : mm_at 41 6 = some ((.invokevirtual 49 : Instr), 9, 36, 2) := by decide +kernel
theorem at_41_9 : mm_at 41 9 = some ((.areturn : Instr), 10, 0, 0) := by decide +kernel
theorem at_42_0 : mm_at 42 0 = some ((.iload_n 1 : Instr), 1, 0, 0) := by decide +kernel
theorem at_42_1 : mm_at 42 1 = some ((.aload_n 0 : Instr), 2, 0, 0) := by decide +kernel
theorem at_42_2 : mm_at 42 2 = some ((.getfield 15 : Instr), 5, 1, 1) := by decide +kernel
theorem at_42_5 : mm_at 42 5 = some ((.if_icmp .ne (10) : Instr), 8, 15, 0) := by decide +kernel
theorem at_42_8 : mm_at 42 8 = some ((.aload_n 0 : Instr), 9, 0, 0) := by decide +kernel
theorem at_42_9 : mm_at 42 9 = some ((.getfield 18 : Instr), 12, 1, 2) := by decide +kernel
theorem at_42_12 : mm_at 42 12 = some ((.goto (7) : Instr), 15, 19, 0) := by decide +kernel
theorem at_42_15 : mm_at 42 15 = some ((.aload_n 0 : Instr), 16, 0, 0) := by decide +kernel
theorem at_42_16 : mm_at 42 16 = some ((.getfield 15 : Instr), 19, 1, 1) := by decide +kernel
theorem at_42_19 : mm_at 42 19 = some ((.ireturn : Instr), 20, 1, 0) := by decide +kernel
theorem at_43_0 : mm_at 43 0 = some ((.aload_n 0 : Instr), 1, 0, 0) := by decide +kernel
theorem at_43_1 : mm_at 43 1 = some ((.getfield 26 : Instr), 4, 1, 3) := by decide +kernel
theorem at_43_4 : mm_at 43 4 = some ((.getfield 53 : Instr), 7, 2, 2) := by decide +kernel
theorem at_43_7 : mm_at 43 7 = some ((.aload_n 0 : Instr), 8, 0, 0) := by decide +kernel
theorem at_43_8 : mm_at 43 8 = some ((.getfield 30 : Instr), 11, 1, 4) := by decide +kernel
theorem at_43_11 : mm_at 43 11 = some ((.getfield 53 : Instr), 14, 2, 2) := by decide +kernel
theorem at_43_14 : mm_at 43 14 = some ((.if_icmp .ne (7) : Instr), 17, 21, 0) := by decide +kernel
theorem at_43_17 : mm_at 43 17 = some ((.iconst (1) : Instr), 18, 0, 0) := by decide +kernel
theorem at_43_18 : mm_at 43 18 = some ((.goto (4) : Instr), 21, 22, 0) := by decide +kernel
theorem at_43_21 : mm_at 43 21 = some ((.iconst (0) : Instr), 22, 0, 0) := by decide +kernel
theorem at_43_22 : mm_at 43 22 = some ((.ireturn : Instr), 23, 2, 0) := by decide +kernel
theorem at_44_0 : mm_at 44 0 = some ((.aload_n 0 : Instr), 1, 0, 0) := by decide +kernel
theorem at_44_1 : mm_at 44 1 = some ((.iload_n 1 : Instr), 2, 0, 0) := by decide +kernel
theorem at_44_2 : mm_at 44 2 = some ((.invokevirtual 59 : Instr), 5, 38, 2) := by decide +kernel
theorem at_44_5 : mm_at 44 5 = some ((.ifCond .eq (16) : Instr), 8, 21, 0) := by decide +kernel
theorem at_44_8 : mm_at 44 8 = some ((.aload_n 0 : Instr), 9, 0, 0) := by decide +kernel
theorem at_44_9 : mm_at 44 9 = some ((.getfield 33 : Instr), 12, 1, 5) := by decide +kernel
theorem at_44_12 : mm_at 44 12 = some ((.aload_n 0 : Instr), 13, 0, 0) := by decide +kernel
theorem at_44_13 : mm_at 44 13 = some ((.iload_n 1 : Instr), 14, 0, 0) := by decide +kernel
theorem at_44_14 : mm_at 44 14 = some ((.invokevirtual 56 : Instr), 17, 39, 2) := by decide +kernel
theorem at_44_17 : mm_at 44 17 = some ((.iaload : Instr), 18, 0, 0) := by decide +kernel
theorem at_44_18 : mm_at 44 18 = some ((.goto (4) : Instr), 21, 22, 0) := by decide +kernel
theorem at_44_21 : mm_at 44 21 = some ((.iconst (-1) : Instr), 22, 0, 0) := by decide +kernel
theorem at_44_22 : mm_at 44 22 = some ((.ireturn : Instr), 23, 1, 0) := by decide +kernel
theorem at_45_0 : mm_at 45 0 = some ((.aload_n 0 : Instr), 1, 0, 0) := by decide +kernel
theorem at_45_1 : mm_at 45 1 = some ((.invokespecial 3 : Instr), 4, 1000, 0) := by decide +kernel
theorem at_45_4 : mm_at 45 4 = some ((.aload_n 0 : Instr), 5, 0, 0) := by decide +kernel
theorem at_45_5 : mm_at 45 5 = some ((.iload_n 1 : Instr), 6, 0, 0) := by decide +kernel
theorem at_45_6 : mm_at 45 6 = some ((.newarray .int : Instr), 8, 10, 0) := by decide +kernel
theorem at_45_8 : mm_at 45 8 = some ((.putfield 9 : Instr), 11, 2, 0) := by decide +kernel
theorem at_45_11 : mm_at 45 11 = some ((.return_ : Instr), 12, 0, 0) := by decide +kernel
theorem at_46_0 : mm_at 46 0 = some ((.aload_n 0 : Instr), 1, 0, 0) := by decide +kernel
theorem at_46_1 : mm_at 46 1 = some ((.getfield 15 : Instr), 4, 2, 1) := by decide +kernel
theorem at_46_4 : mm_at 46 4 = some ((.aload_n 0 : Instr), 5, 0, 0) := by decide +kernel
theorem at_46_5 : mm_at 46 5 = some ((.getfield 9 : Instr), 8, 2, 0) := by decide +kernel
theorem at_46_8 : mm_at 46 8 = some ((.arraylength : Instr), 9, 0, 0) := by decide +kernel
theorem at_46_9 : mm_at 46 9 = some ((.if_icmp .ge (23) : Instr), 12, 32, 0) := by decide +kernel
theorem at_46_12 : mm_at 46 12 = some ((.aload_n 0 : Instr), 13, 0, 0) := by decide +kernel
theorem at_46_13 : mm_at 46 13 = some ((.getfield 9 : Instr), 16, 2, 0) := by decide +kernel
theorem at_46_16 : mm_at 46 16 = some ((.aload_n 0 : Instr), 17, 0, 0) := by decide +kernel
theorem at_46_17 : mm_at 46 17 = some ((.getfield 15 : Instr), 20, 2, 1) := by decide +kernel
theorem at_46_20 : mm_at 46 20 = some ((.iload_n 1 : Instr), 21, 0, 0) := by decide +kernel
theorem at_46_21 : mm_at 46 21 = some ((.iastore : Instr), 22, 0, 0) := by decide +kernel
theorem at_46_22 : mm_at 46 22 = some ((.aload_n 0 : Instr), 23, 0, 0) := by decide +kernel
theorem at_46_23 : mm_at 46 23 = some ((.dup : Instr), 24, 0, 0) := by decide +kernel
theorem at_46_24 : mm_at 46 24 = some ((.getfield 15 : Instr), 27, 2, 1) := by decide +kernel
theorem at_46_27 : mm_at 46 27 = some ((.iconst (1) : Instr), 28, 0, 0) := by decide +kernel
theorem at_46_28 : mm_at 46 28 = some ((.iadd : Instr), 29, 0, 0) := by decide +kernel
theorem at_46_29 : mm_at 46 29 = some ((.putfield 15 : Instr), 32, 2, 1) := by decide +kernel
theorem at_46_32 : mm_at 46 32 = some ((.return_ : Instr), 33, 0, 0) := by decide +kernel
theorem at_47_0 : mm_at 47 0 = some ((.aload_n 0 : Instr), 1, 0, 0) := by decide +kernel
theorem at_47_1 : mm_at 47 1 = some ((.getfield 15 : Instr), 4, 2, 1) := by decide +kernel
theorem at_47_4 : mm_at 47 4 = some ((.ifCond .ne (5) : Instr), 7, 9, 0) := by decide +kernel
theorem at_47_7 : mm_at 47 7 = some ((.iconst (-1) : Instr), 8, 0, 0) := by decide +kernel
theorem at_47_8 : mm_at 47 8 = some ((.ireturn : Instr), 9, 1, 0) := by decide +kernel
theorem at_47_9 : mm_at 47 9 = some ((.aload_n 0 : Instr), 10, 0, 0) := by decide +kernel
theorem at_47_10 : mm_at 47 10 = some ((.dup : Instr), 11, 0, 0) := by decide +kernel
theorem at_47_11 : mm_at 47 11 = some ((.getfield 15 : Instr), 14, 2, 1) := by decide +kernel
theorem at_47_14 : mm_at 47 14 = some ((.iconst (1) : Instr), 15, 0, 0) := by decide +kernel
theorem at_47_15 : mm_at 47 15 = some ((.isub : Instr), 16, 0, 0) := by decide +kernel
theorem at_47_16 : mm_at 47 16 = some ((.putfield 15 : Instr), 19, 2, 1) := by decide +kernel
theorem at_47_19 : mm_at 47 19 = some ((.aload_n 0 : Instr), 20, 0, 0) := by decide +kernel
theorem at_47_20 : mm_at 47 20 = some ((.getfield 9 : Instr), 23, 2, 0) := by decide +kernel
theorem at_47_23 : mm_at 47 23 = some ((.aload_n 0 : Instr), 24, 0, 0) := by decide +kernel
theorem at_47_24 : mm_at 47 24 = some ((.getfield 15 : Instr), 27, 2, 1) := by decide +kernel
theorem at_47_27 : mm_at 47 27 = some ((.iaload : Instr), 28, 0, 0) := by decide +kernel
theorem at_47_28 : mm_at 47 28 = some ((.ireturn : Instr), 29, 1, 0) := by decide +kernel
theorem at_48_0 : mm_at 48 0 = some ((.aload_n 0 : Instr), 1, 0, 0) := by decide +kernel
theorem at_48_1 : mm_at 48 1 = some ((.iconst (1) : Instr), 2, 0, 0) := by decide +kernel
theorem at_48_2 : mm_at 48 2 = some ((.aload_n 0 : Instr), 3, 0, 0) := by decide +kernel
theorem at_48_3 : mm_at 48 3 = some ((.getfield 19 : Instr), 6, 2, 2) := by decide +kernel
theorem at_48_6 : mm_at 48 6 = some ((.isub : Instr), 7, 0, 0) := by decide +kernel
theorem at_48_7 : mm_at 48 7 = some ((.putfield 19 : Instr), 10, 2, 2) := by decide +kernel
theorem at_48_10 : mm_at 48 10 = some ((.return_ : Instr), 11, 0, 0) := by decide +kernel
theorem at_49_0 : mm_at 49 0 = some ((.aload_n 0 : Instr), 1, 0, 0) := by decide +kernel
theorem at_49_1 : mm_at 49 1 = some ((.invokespecial 3 : Instr), 4, 1000, 0) := by decide +kernel
theorem at_49_4 : mm_at 49 4 = some ((.aload_n 0 : Instr), 5, 0, 0) := by decide +kernel
theorem at_49_5 : mm_at 49 5 = some ((.iconst (-1) : Instr), 6, 0, 0) := by decide +kernel
theorem at_49_6 : mm_at 49 6 = some ((.putfield 9 : Instr), 9, 3, 1) := by decide +kernel
theorem at_49_9 : mm_at 49 9 = some ((.aload_n 0 : Instr), 10, 0, 0) := by decide +kernel
theorem at_49_10 : mm_at 49 10 = some ((.iconst (-1) : Instr), 11, 0, 0) := by decide +kernel
theorem at_49_11 : mm_at 49 11 = some ((.putfield 15 : Instr), 14, 3, 2) := by decide +kernel
theorem at_49_14 : mm_at 49 14 = some ((.aload_n 0 : Instr), 15, 0, 0) := by decide +kernel
theorem at_49_15 : mm_at 49 15 = some ((.iconst (-1) : Instr), 16, 0, 0) := by decide +kernel
theorem at_49_16 : mm_at 49 16 = some ((.putfield 18 : Instr), 19, 3, 3) := by decide +kernel
theorem at_49_19 : mm_at 49 19 = some ((.aload_n 0 : Instr), 20, 0, 0) := by decide +kernel
theorem at_49_20 : mm_at 49 20 = some ((.iconst (-1) : Instr), 21, 0, 0) := by decide +kernel
theorem at_49_21 : mm_at 49 21 = some ((.putfield 21 : Instr), 24, 3, 4) := by decide +kernel
theorem at_49_24 : mm_at 49 24 = some ((.return_ : Instr), 25, 0, 0) := by decide +kernel
theorem at_50_0 : mm_at 50 0 = some ((.aload_n 0 : Instr), 1, 0, 0) := by decide +kernel
theorem at_50_1 : mm_at 50 1 = some ((.invokespecial 1 : Instr), 4, 1000, 0) := by decide +kernel
theorem at_50_4 : mm_at 50 4 = some ((.aload_n 0 : Instr), 5, 0, 0) := by decide +kernel
theorem at_50_5 : mm_at 50 5 = some ((.iconst (1) : Instr), 6, 0, 0) := by decide +kernel
theorem at_50_6 : mm_at 50 6 = some ((.putfield 7 : Instr), 9, 4, 3) := by decide +kernel
theorem at_50_9 : mm_at 50 9 = some ((.aload_n 0 : Instr), 10, 0, 0) := by decide +kernel
theorem at_50_10 : mm_at 50 10 = some ((.bipush (6) : Instr), 12, 0, 0) := by decide +kernel
theorem at_50_12 : mm_at 50 12 = some ((.newarray .boolean : Instr), 14, 11, 0) := by decide +kernel
theorem at_50_14 : mm_at 50 14 = some ((.putfield 13 : Instr), 17, 4, 4) := by decide +kernel
theorem at_50_17 : mm_at 50 17 = some ((.aload_n 0 : Instr), 18, 0, 0) := by decide +kernel
theorem at_50_18 : mm_at 50 18 = some ((.bipush (6) : Instr), 20, 0, 0) := by decide +kernel
theorem at_50_20 : mm_at 50 20 = some ((.newarray .boolean : Instr), 22, 11, 0) := by decide +kernel
theorem at_50_22 : mm_at 50 22 = some ((.putfield 17 : Instr), 25, 4, 5) := by decide +kernel
theorem at_50_25 : mm_at 50 25 = some ((.aload_n 0 : Instr), 26, 0, 0) := by decide +kernel
theorem at_50_26 : mm_at 50 26 = some ((.bipush (15) : Instr), 28, 0, 0) := by decide +kernel
theorem at_50_28 : mm_at 50 28 = some ((.newarray .boolean : Instr), 30, 11, 0) := by decide +kernel
theorem at_50_30 : mm_at 50 30 = some ((.putfield 20 : Instr), 33, 4, 6) := by decide +kernel
theorem at_50_33 : mm_at 50 33 = some ((.aload_n 0 : Instr), 34, 0, 0) := by decide +kernel
theorem at_50_34 : mm_at 50 34 = some ((.bipush (15) : Instr), 36, 0, 0) := by decide +kernel
theorem at_50_36 : mm_at 50 36 = some ((.newarray .boolean : Instr), 38, 11, 0) := by decide +kernel
theorem at_50_38 : mm_at 50 38 = some ((.putfield 23 : Instr), 41, 4, 7) := by decide +kernel
theorem at_50_41 : mm_at 50 41 = some ((.aload_n 0 : Instr), 42, 0, 0) := by decide +kernel
theorem at_50_42 : mm_at 50 42 = some ((.bipush (30) : Instr), 44, 0, 0) := by decide +kernel
theorem at_50_44 : mm_at 50 44 = some ((.newarray .boolean : Instr), 46, 11, 0) := by decide +kernel
theorem at_50_46 : mm_at 50 46 = some ((.putfield 26 : Instr), 49, 4, 8) := by decide +kernel
theorem at_50_49 : mm_at 50 49 = some ((.aload_n 0 : Instr), 50, 0, 0) := by decide +kernel
theorem at_50_50 : mm_at 50 50 = some ((.bipush (30) : Instr), 52, 0, 0) := by decide +kernel
theorem at_50_52 : mm_at 50 52 = some ((.newarray .int : Instr), 54, 10, 0) := by decide +kernel
theorem at_50_54 : mm_at 50 54 = some ((.putfield 29 : Instr), 57, 4, 9) := by decide +kernel
theorem at_50_57 : mm_at 50 57 = some ((.aload_n 0 : Instr), 58, 0, 0) := by decide +kernel
theorem at_50_58 : mm_at 50 58 = some ((.bipush (120) : Instr), 60, 0, 0) := by decide +kernel
theorem at_50_60 : mm_at 50 60 = some ((.newarray .int : Instr), 62, 10, 0) := by decide +kernel
theorem at_50_62 : mm_at 50 62 = some ((.putfield 33 : Instr), 65, 4, 10) := by decide +kernel
theorem at_50_65 : mm_at 50 65 = some ((.aload_n 0 : Instr), 66, 0, 0) := by decide +kernel
theorem at_50_66 : mm_at 50 66 = some ((.bipush (120) : Instr), 68, 0, 0) := by decide +kernel
theorem at_50_68 : mm_at 50 68 = some ((.newarray .int : Instr), 70, 10, 0) := by decide +kernel
theorem at_50_70 : mm_at 50 70 = some ((.putfield 36 : Instr), 73, 4, 11) := by decide +kernel
theorem at_50_73 : mm_at 50 73 = some ((.aload_n 0 : Instr), 74, 0, 0) := by decide +kernel
theorem at_50_74 : mm_at 50 74 = some ((.bipush (8) : Instr), 76, 0, 0) := by decide +kernel
theorem at_50_76 : mm_at 50 76 = some ((.newarray .boolean : Instr), 78, 11, 0) := by decide +kernel
theorem at_50_78 : mm_at 50 78 = some ((.putfield 39 : Instr), 81, 4, 12) := by decide +kernel
theorem at_50_81 : mm_at 50 81 = some ((.aload_n 0 : Instr), 82, 0, 0) := by decide +kernel
theorem at_50_82 : mm_at 50 82 = some ((.bipush (8) : Instr), 84, 0, 0) := by decide +kernel
theorem at_50_84 : mm_at 50 84 = some ((.newarray .int : Instr), 86, 10, 0) := by decide +kernel
theorem at_50_86 : mm_at 50 86 = some ((.putfield 42 : Instr), 89, 4, 13) := by decide +kernel
theorem at_50_89 : mm_at 50 89 = some ((.aload_n 0 : Instr), 90, 0, 0) := by decide +kernel
theorem at_50_90 : mm_at 50 90 = some ((.bipush (8) : Instr), 92, 0, 0) := by decide +kernel
theorem at_50_92 : mm_at 50 92 = some ((.newarray .int : Instr), 94, 10, 0) := by decide +kernel
theorem at_50_94 : mm_at 50 94 = some ((.putfield 45 : Instr), 97, 4, 14) := by decide +kernel
theorem at_50_97 : mm_at 50 97 = some ((.aload_n 0 : Instr), 98, 0, 0) := by decide +kernel
theorem at_50_98 : mm_at 50 98 = some ((.iload_n 1 : Instr), 99, 0, 0) := by decide +kernel
theorem at_50_99 : mm_at 50 99 = some ((.iconst (2) : Instr), 100, 0, 0) := by decide +kernel
theorem at_50_100 : mm_at 50 100 = some ((.if_icmp .lt (9) : Instr), 103, 109, 0) := by decide +kernel
theorem at_50_103 : mm_at 50 103 = some ((.iload_n 1 : Instr), 104, 0, 0) := by decide +kernel
theorem at_50_104 : mm_at 50 104 = some ((.bipush (6) : Instr), 106, 0, 0) := by decide +kernel
theorem at_50_106 : mm_at 50 106 = some ((.if_icmp .le (7) : Instr), 109, 113, 0) := by decide +kernel
theorem at_50_109 : mm_at 50 109 = some ((.iconst (4) : Instr), 110, 0, 0) := by decide +kernel
theorem at_50_110 : mm_at 50 110 = some ((.goto (4) : Instr), 113, 114, 0) := by decide +kernel
theorem at_50_113 : mm_at 50 113 = some ((.iload_n 1 : Instr), 114, 0, 0) := by decide +kernel
theorem at_50_114 : mm_at 50 114 = some ((.putfield 48 : Instr), 117, 4, 0) := by decide +kernel
theorem at_50_117 : mm_at 50 117 = some ((.aload_n 0 : Instr), 118, 0, 0) := by decide +kernel
theorem at_50_118 : mm_at 50 118 = some ((.iload_n 2 : Instr), 119, 0, 0) := by decide +kernel
theorem at_50_119 : mm_at 50 119 = some ((.iconst (4) : Instr), 120, 0, 0) := by decide +kernel
theorem at_50_120 : mm_at 50 120 = some ((.if_icmp .lt (9) : Instr), 123, 129, 0) := by decide +kernel
theorem at_50_123 : mm_at 50 123 = some ((.iload_n 2 : Instr), 124, 0, 0) := by decide +kernel
theorem at_50_124 : mm_at 50 124 = some ((.bipush (8) : Instr), 126, 0, 0) := by decide +kernel
theorem at_50_126 : mm_at 50 126 = some ((.if_icmp .le (8) : Instr), 129, 134, 0) := by decide +kernel
theorem at_50_129 : mm_at 50 129 = some ((.bipush (6) : Instr), 131, 0, 0) := by decide +kernel
theorem at_50_131 : mm_at 50 131 = some ((.goto (4) : Instr), 134, 135, 0) := by decide +kernel
theorem at_50_134 : mm_at 50 134 = some ((.iload_n 2 : Instr), 135, 0, 0) := by decide +kernel
theorem at_50_135 : mm_at 50 135 = some ((.putfield 51 : Instr), 138, 4, 1) := by decide +kernel
theorem at_50_138 : mm_at 50 138 = some ((.iconst (0) : Instr), 139, 0, 0) := by decide +kernel
theorem at_50_139 : mm_at 50 139 = some ((.istore 4 : Instr), 141, 0, 0) := by decide +kernel
theorem at_50_141 : mm_at 50 141 = some ((.iload 4 : Instr), 143, 0, 0) := by decide +kernel
theorem at_50_143 : mm_at 50 143 = some ((.aload_n 0 : Instr), 144, 0, 0) := by decide +kernel
theorem at_50_144 : mm_at 50 144 = some ((.getfield 48 : Instr), 147, 4, 0) := by decide +kernel
theorem at_50_147 : mm_at 50 147 = some ((.iconst (1) : Instr), 148, 0, 0) := by decide +kernel
theorem at_50_148 : mm_at 50 148 = some ((.isub : Instr), 149, 0, 0) := by decide +kernel
theorem at_50_149 : mm_at 50 149 = some ((.if_icmp .ge (17) : Instr), 152, 166, 0) := by decide +kernel
theorem at_50_152 : mm_at 50 152 = some ((.aload_n 0 : Instr), 153, 0, 0) := by decide +kernel
theorem at_50_153 : mm_at 50 153 = some ((.getfield 20 : Instr), 156, 4, 6) := by decide +kernel
theorem at_50_156 : mm_at 50 156 = some ((.iload 4 : Instr), 158, 0, 0) := by decide +kernel
theorem at_50_158 : mm_at 50 158 = some ((.iconst (1) : Instr), 159, 0, 0) := by decide +kernel
theorem at_50_159 : mm_at 50 159 = some ((.bastore : Instr), 160, 0, 0) := by decide +kernel
theorem at_50_160 : mm_at 50 160 = some ((.iinc 4 (1) : Instr), 163, 0, 0) := by decide +kernel
theorem at_50_163 : mm_at 50 163 = some ((.goto (-22) : Instr), 166, 141, 0) := by decide +kernel
theorem at_50_166 : mm_at 50 166 = some ((.iconst (1) : Instr), 167, 0, 0) := by decide +kernel
theorem at_50_167 : mm_at 50 167 = some ((.istore 4 : Instr), 169, 0, 0) := by decide +kernel
theorem at_50_169 : mm_at 50 169 = some ((.iload 4 : Instr), 171, 0, 0) := by decide +kernel
theorem at_50_171 : mm_at 50 171 = some ((.aload_n 0 : Instr), 172, 0, 0) := by decide +kernel
theorem at_50_172 : mm_at 50 172 = some ((.getfield 48 : Instr), 175, 4, 0) := by decide +kernel
theorem at_50_175 : mm_at 50 175 = some ((.iconst (1) : Instr), 176, 0, 0) := by decide +kernel
theorem at_50_176 : mm_at 50 176 = some ((.isub : Instr), 177, 0, 0) := by decide +kernel
theorem at_50_177 : mm_at 50 177 = some ((.if_icmp .ge (48) : Instr), 180, 225, 0) := by decide +kernel
theorem at_50_180 : mm_at 50 180 = some ((.aload_n 0 : Instr), 181, 0, 0) := by decide +kernel
theorem at_50_181 : mm_at 50 181 = some ((.getfield 13 : Instr), 184, 4, 4) := by decide +kernel
theorem at_50_184 : mm_at 50 184 = some ((.iload 4 : Instr), 186, 0, 0) := by decide +kernel
theorem at_50_186 : mm_at 50 186 = some ((.iload_n 3 : Instr), 187, 0, 0) := by decide +kernel
theorem at_50_187 : mm_at 50 187 = some ((.iload 4 : Instr), 189, 0, 0) := by decide +kernel
theorem at_50_189 : mm_at 50 189 = some ((.ishr : Instr), 190, 0, 0) := by decide +kernel
theorem at_50_190 : mm_at 50 190 = some ((.iconst (1) : Instr), 191, 0, 0) := by decide +kernel
theorem at_50_191 : mm_at 50 191 = some ((.iand : Instr), 192, 0, 0) := by decide +kernel
theorem at_50_192 : mm_at 50 192 = some ((.iconst (1) : Instr), 193, 0, 0) := by decide +kernel
theorem at_50_193 : mm_at 50 193 = some ((.if_icmp .ne (7) : Instr), 196, 200, 0) := by decide +kernel
theorem at_50_196 : mm_at 50 196 = some ((.iconst (1) : Instr), 197, 0, 0) := by decide +kernel
theorem at_50_197 : mm_at 50 197 = some ((.goto (4) : Instr), 200, 201, 0) := by decide +kernel
theorem at_50_200 : mm_at 50 200 = some ((.iconst (0) : Instr), 201, 0, 0) := by decide +kernel
theorem at_50_201 : mm_at 50 201 = some ((.bastore : Instr), 202, 0, 0) := by decide +kernel
theorem at_50_202 : mm_at 50 202 = some ((.aload_n 0 : Instr), 203, 0, 0) := by decide +kernel
theorem at_50_203 : mm_at 50 203 = some ((.getfield 20 : Instr), 206, 4, 6) := by decide +kernel
theorem at_50_206 : mm_at 50 206 = some ((.bipush (10) : Instr), 208, 0, 0) := by decide +kernel
theorem at_50_208 : mm_at 50 208 = some ((.iload 4 : Instr), 210, 0, 0) := by decide +kernel
theorem at_50_210 : mm_at 50 210 = some ((.iadd : Instr), 211, 0, 0) := by decide +kernel
theorem at_50_211 : mm_at 50 211 = some ((.aload_n 0 : Instr), 212, 0, 0) := by decide +kernel
theorem at_50_212 : mm_at 50 212 = some ((.getfield 13 : Instr), 215, 4, 4) := by decide +kernel
theorem at_50_215 : mm_at 50 215 = some ((.iload 4 : Instr), 217, 0, 0) := by decide +kernel
theorem at_50_217 : mm_at 50 217 = some ((.baload : Instr), 218, 0, 0) := by decide +kernel
theorem at_50_218 : mm_at 50 218 = some ((.bastore : Instr), 219, 0, 0) := by decide +kernel
theorem at_50_219 : mm_at 50 219 = some ((.iinc 4 (1) : Instr), 222, 0, 0) := by decide +kernel
theorem at_50_222 : mm_at 50 222 = some ((.goto (-53) : Instr), 225, 169, 0) := by decide +kernel
theorem at_50_225 : mm_at 50 225 = some ((.iconst (0) : Instr), 226, 0, 0) := by decide +kernel
theorem at_50_226 : mm_at 50 226 = some ((.istore 4 : Instr), 228, 0, 0) := by decide +kernel
theorem at_50_228 : mm_at 50 228 = some ((.iload 4 : Instr), 230, 0, 0) := by decide +kernel
theorem at_50_230 : mm_at 50 230 = some ((.bipush (120) : Instr), 232, 0, 0) := by decide +kernel
theorem at_50_232 : mm_at 50 232 = some ((.if_icmp .ge (41) : Instr), 235, 273, 0) := by decide +kernel
theorem at_50_235 : mm_at 50 235 = some ((.aload_n 0 : Instr), 236, 0, 0) := by decide +kernel
theorem at_50_236 : mm_at 50 236 = some ((.getfield 33 : Instr), 239, 4, 10) := by decide +kernel
theorem at_50_239 : mm_at 50 239 = some ((.iload 4 : Instr), 241, 0, 0) := by decide +kernel
theorem at_50_241 : mm_at 50 241 = some ((.iload 4 : Instr), 243, 0, 0) := by decide +kernel
theorem at_50_243 : mm_at 50 243 = some ((.iconst (2) : Instr), 244, 0, 0) := by decide +kernel
theorem at_50_244 : mm_at 50 244 = some ((.irem : Instr), 245, 0, 0) := by decide +kernel
theorem at_50_245 : mm_at 50 245 = some ((.iastore : Instr), 246, 0, 0) := by decide +kernel
theorem at_50_246 : mm_at 50 246 = some ((.aload_n 0 : Instr), 247, 0, 0) := by decide +kernel
theorem at_50_247 : mm_at 50 247 = some ((.getfield 36 : Instr), 250, 4, 11) := by decide +kernel
theorem at_50_250 : mm_at 50 250 = some ((.iload 4 : Instr), 252, 0, 0) := by decide +kernel
theorem at_50_252 : mm_at 50 252 = some ((.aload_n 0 : Instr), 253, 0, 0) := by decide +kernel
theorem at_50_253 : mm_at 50 253 = some ((.getfield 7 : Instr), 256, 4, 3) := by decide +kernel
theorem at_50_256 : mm_at 50 256 = some ((.iastore : Instr), 257, 0, 0) := by decide +kernel
theorem at_50_257 : mm_at 50 257 = some ((.aload_n 0 : Instr), 258, 0, 0) := by decide +kernel
theorem at_50_258 : mm_at 50 258 = some ((.dup : Instr), 259, 0, 0) := by decide +kernel
theorem at_50_259 : mm_at 50 259 = some ((.getfield 7 : Instr), 262, 4, 3) := by decide +kernel
theorem at_50_262 : mm_at 50 262 = some ((.iconst (1) : Instr), 263, 0, 0) := by decide +kernel
theorem at_50_263 : mm_at 50 263 = some ((.iadd : Instr), 264, 0, 0) := by decide +kernel
theorem at_50_264 : mm_at 50 264 = some ((.putfield 7 : Instr), 267, 4, 3) := by decide +kernel
theorem at_50_267 : mm_at 50 267 = some ((.iinc 4 (1) : Instr), 270, 0, 0) := by decide +kernel
theorem at_50_270 : mm_at 50 270 = some ((.goto (-42) : Instr), 273, 228, 0) := by decide +kernel
theorem at_50_273 : mm_at 50 273 = some ((.iconst (0) : Instr), 274, 0, 0) := by decide +kernel
theorem at_50_274 : mm_at 50 274 = some ((.istore 4 : Instr), 276, 0, 0) := by decide +kernel
theorem at_50_276 : mm_at 50 276 = some ((.iload 4 : Instr), 278, 0, 0) := by decide +kernel
theorem at_50_278 : mm_at 50 278 = some ((.bipush (8) : Instr), 280, 0, 0) := by decide +kernel
theorem at_50_280 : mm_at 50 280 = some ((.if_icmp .ge (17) : Instr), 283, 297, 0) := by decide +kernel
theorem at_50_283 : mm_at 50 283 = some ((.aload_n 0 : Instr), 284, 0, 0) := by decide +kernel
theorem at_50_284 : mm_at 50 284 = some ((.getfield 45 : Instr), 287, 4, 14) := by decide +kernel
theorem at_50_287 : mm_at 50 287 = some ((.iload 4 : Instr), 289, 0, 0) := by decide +kernel
theorem at_50_289 : mm_at 50 289 = some ((.iconst (-1) : Instr), 290, 0, 0) := by decide +kernel
theorem at_50_290 : mm_at 50 290 = some ((.iastore : Instr), 291, 0, 0) := by decide +kernel
theorem at_50_291 : mm_at 50 291 = some ((.iinc 4 (1) : Instr), 294, 0, 0) := by decide +kernel
theorem at_50_294 : mm_at 50 294 = some ((.goto (-18) : Instr), 297, 276, 0) := by decide +kernel
theorem at_50_297 : mm_at 50 297 = some ((.return_ : Instr), 298, 0, 0) := by decide +kernel
theorem at_51_0 : mm_at 51 0 = some ((.aload_n 0 : Instr), 1, 0, 0) := by decide +kernel
theorem at_51_1 : mm_at 51 1 = some ((.getfield 54 : Instr), 4, 4, 2) := by decide +kernel
theorem at_51_4 : mm_at 51 4 = some ((.ireturn : Instr), 5, 1, 0) := by decide +kernel
theorem at_52_0 : mm_at 52 0 = some ((.aload_n 0 : Instr), 1, 0, 0) := by decide +kernel
theorem at_52_1 : mm_at 52 1 = some ((.aload_n 0 : Instr), 2, 0, 0) := by decide +kernel
theorem at_52_2 : mm_at 52 2 = some ((.iload_n 1 : Instr), 3, 0, 0) := by decide +kernel
theorem at_52_3 : mm_at 52 3 = some ((.iload_n 2 : Instr), 4, 0, 0) := by decide +kernel
theorem at_52_4 : mm_at 52 4 = some ((.invokevirtual 71 : Instr), 7, 53, 3) := by decide +kernel
theorem at_52_7 : mm_at 52 7 = some ((.ifCond .eq (7) : Instr), 10, 14, 0) := by decide +kernel
theorem at_52_10 : mm_at 52 10 = some ((.iconst (0) : Instr), 11, 0, 0) := by decide +kernel
theorem at_52_11 : mm_at 52 11 = some ((.goto (4) : Instr), 14, 15, 0) := by decide +kernel
theorem at_52_14 : mm_at 52 14 = some ((.iconst (1) : Instr), 15, 0, 0) := by decide +kernel
theorem at_52_15 : mm_at 52 15 = some ((.putfield 54 : Instr), 18, 4, 2) := by decide +kernel
theorem at_52_18 : mm_at 52 18 = some ((.aload_n 0 : Instr), 19, 0, 0) := by decide +kernel
theorem at_52_19 : mm_at 52 19 = some ((.getfield 54 : Instr), 22, 4, 2) := by decide +kernel
theorem at_52_22 : mm_at 52 22 = some ((.ifCond .ne (18) : Instr), 25, 40, 0) := by decide +kernel
theorem at_52_25 : mm_at 52 25 = some ((.aload_n 0 : Instr), 26, 0, 0) := by decide +kernel
theorem at_52_26 : mm_at 52 26 = some ((.getfield 26 : Instr), 29, 4, 8) := by decide +kernel
theorem at_52_29 : mm_at 52 29 = some ((.iconst (2) : Instr), 30, 0, 0) := by decide +kernel
theorem at_52_30 : mm_at 52 30 = some ((.iload_n 2 : Instr), 31, 0, 0) := by decide +kernel
theorem at_52_31 : mm_at 52 31 = some ((.imul : Instr), 32, 0, 0) := by decide +kernel
theorem at_52_32 : mm_at 52 32 = some ((.iload_n 1 : Instr), 33, 0, 0) := by decide +kernel
theorem at_52_33 : mm_at 52 33 = some ((.iload_n 2 : Instr), 34, 0, 0) := by decide +kernel
theorem at_52_34 : mm_at 52 34 = some ((.invokestatic 75 : Instr), 37, 58, 2) := by decide +kernel
theorem at_52_37 : mm_at 52 37 = some ((.iadd : Instr), 38, 0, 0) := by decide +kernel
theorem at_52_38 : mm_at 52 38 = some ((.iload_n 3 : Instr), 39, 0, 0) := by decide +kernel
theorem at_52_39 : mm_at 52 39 = some ((.bastore : Instr), 40, 0, 0) := by decide +kernel
theorem at_52_40 : mm_at 52 40 = some ((.return_ : Instr), 41, 0, 0) := by decide +kernel
theorem at_53_0 : mm_at 53 0 = some ((.aload_n 0 : Instr), 1, 0, 0) := by decide +kernel
theorem at_53_1 : mm_at 53 1 = some ((.iload_n 1 : Instr), 2, 0, 0) := by decide +kernel
theorem at_53_2 : mm_at 53 2 = some ((.invokevirtual 57 : Instr), 5, 54, 2) := by decide +kernel
theorem at_53_5 : mm_at 53 5 = some ((.ifCond .eq (31) : Instr), 8, 36, 0) := by decide +kernel
theorem at_53_8 : mm_at 53 8 = some ((.aload_n 0 : Instr), 9, 0, 0) := by decide +kernel
theorem at_53_9 : mm_at 53 9 = some ((.iload_n 2 : Instr), 10, 0, 0) := by decide +kernel
theorem at_53_10 : mm_at 53 10 = some ((.invokevirtual 61 : Instr), 13, 55, 2) := by decide +kernel
theorem at_53_13 : mm_at 53 13 = some ((.ifCond .eq (23) : Instr), 16, 36, 0) := by decide +kernel
theorem at_53_16 : mm_at 53 16 = some ((.iload_n 1 : Instr), 17, 0, 0) := by decide +kernel
theorem at_53_17 : mm_at 53 17 = some ((.iload_n 2 : Instr), 18, 0, 0) := by decide +kernel
theorem at_53_18 : mm_at 53 18 = some ((.invokestatic 64 : Instr), 21, 56, 1) := by decide +kernel
theorem at_53_21 : mm_at 53 21 = some ((.if_icmp .eq (11) : Instr), 24, 32, 0) := by decide +kernel
theorem at_53_24 : mm_at 53 24 = some ((.iload_n 1 : Instr), 25, 0, 0) := by decide +kernel
theorem at_53_25 : mm_at 53 25 = some ((.iload_n 2 : Instr), 26, 0, 0) := by decide +kernel
theorem at_53_26 : mm_at 53 26 = some ((.invokestatic 68 : Instr), 29, 57, 1) := by decide +kernel
theorem at_53_29 : mm_at 53 29 = some ((.if_icmp .ne (7) : Instr), 32, 36, 0) := by decide +kernel
theorem at_53_32 : mm_at 53 32 = some ((.iconst (1) : Instr), 33, 0, 0) := by decide +kernel
theorem at_53_33 : mm_at 53 33 = some ((.goto (4) : Instr), 36, 37, 0) := by decide +kernel
theorem at_53_36 : mm_at 53 36 = some ((.iconst (0) : Instr), 37, 0, 0) := by decide +kernel
theorem at_53_37 : mm_at 53 37 = some ((.ireturn : Instr), 38, 2, 0) := by decide +kernel
theorem at_54_0 : mm_at 54 0 = some ((.iload_n 1 : Instr), 1, 0, 0) := by decide +kernel
theorem at_54_1 : mm_at 54 1 = some ((.ifCond .lt (15) : Instr), 4, 16, 0) := by decide +kernel
theorem at_54_4 : mm_at 54 4 = some ((.iload_n 1 : Instr), 5, 0, 0) := by decide +kernel
theorem at_54_5 : mm_at 54 5 = some ((.aload_n 0 : Instr), 6, 0, 0) := by decide +kernel
theorem at_54_6 : mm_at 54 6 = some ((.getfield 48 : Instr), 9, 4, 0) := by decide +kernel
theorem at_54_9 : mm_at 54 9 = some ((.if_icmp .ge (7) : Instr), 12, 16, 0) := by decide +kernel
theorem at_54_12 : mm_at 54 12 = some ((.iconst (1) : Instr), 13, 0, 0) := by decide +kernel
theorem at_54_13 : mm_at 54 13 = some ((.goto (4) : Instr), 16, 17, 0) := by decide +kernel
theorem at_54_16 : mm_at 54 16 = some ((.iconst (0) : Instr), 17, 0, 0) := by decide +kernel
theorem at_54_17 : mm_at 54 17 = some ((.ireturn : Instr), 18, 2, 0) := by decide +kernel
theorem at_55_0 : mm_at 55 0 = some ((.iload_n 1 : Instr), 1, 0, 0) := by decide +kernel
theorem at_55_1 : mm_at 55 1 = some ((.ifCond .lt (22) : Instr), 4, 23, 0) := by decide +kernel
theorem at_55_4 : mm_at 55 4 = some ((.iload_n 1 : Instr), 5, 0, 0) := by decide +kernel
theorem at_55_5 : mm_at 55 5 = some ((.bipush (15) : Instr), 7, 0, 0) := by decide +kernel
theorem at_55_7 : mm_at 55 7 = some ((.if_icmp .ge (16) : Instr), 10, 23, 0) := by decide +kernel
theorem at_55_10 : mm_at 55 10 = some ((.aload_n 0 : Instr), 11, 0, 0) := by decide +kernel
theorem at_55_11 : mm_at 55 11 = some ((.getfield 20 : Instr), 14, 4, 6) := by decide +kernel
theorem at_55_14 : mm_at 55 14 = some ((.iload_n 1 : Instr), 15, 0, 0) := by decide +kernel
theorem at_55_15 : mm_at 55 15 = some ((.baload : Instr), 16, 0, 0) := by decide +kernel
theorem at_55_16 : mm_at 55 16 = some ((.ifCond .eq (7) : Instr), 19, 23, 0) := by decide +kernel
theorem at_55_19 : mm_at 55 19 = some ((.iconst (1) : Instr), 20, 0, 0) := by decide +kernel
theorem at_55_20 : mm_at 55 20 = some ((.goto (4) : Instr), 23, 24, 0) := by decide +kernel
theorem at_55_23 : mm_at 55 23 = some ((.iconst (0) : Instr), 24, 0, 0) := by decide +kernel
theorem at_55_24 : mm_at 55 24 = some ((.ireturn : Instr), 25, 2, 0) := by decide +kernel
theorem at_56_0 : mm_at 56 0 = some ((.iload_n 0 : Instr), 1, 0, 0) := by decide +kernel
theorem at_56_1 : mm_at 56 1 = some ((.bipush (10) : Instr), 3, 0, 0) := by decide +kernel
theorem at_56_3 : mm_at 56 3 = some ((.if_icmp .ge (7) : Instr), 6, 10, 0) := by decide +kernel
theorem at_56_6 : mm_at 56 6 = some ((.iload_n 0 : Instr), 7, 0, 0) := by decide +kernel
theorem at_56_7 : mm_at 56 7 = some ((.goto (7) : Instr), 10, 14, 0) := by decide +kernel
theorem at_56_10 : mm_at 56 10 = some ((.iload_n 0 : Instr), 11, 0, 0) := by decide +kernel
theorem at_56_11 : mm_at 56 11 = some ((.bipush (11) : Instr), 13, 0, 0) := by decide +kernel
theorem at_56_13 : mm_at 56 13 = some ((.isub : Instr), 14, 0, 0) := by decide +kernel
theorem at_56_14 : mm_at 56 14 = some ((.ireturn : Instr), 15, 1, 0) := by decide +kernel
theorem at_57_0 : mm_at 57 0 = some ((.iload_n 0 : Instr), 1, 0, 0) := by decide +kernel
theorem at_57_1 : mm_at 57 1 = some ((.bipush (10) : Instr), 3, 0, 0) := by decide +kernel
theorem at_57_3 : mm_at 57 3 = some ((.if_icmp .ge (9) : Instr), 6, 12, 0) := by decide +kernel
theorem at_57_6 : mm_at 57 6 = some ((.iload_n 0 : Instr), 7, 0, 0) := by decide +kernel
theorem at_57_7 : mm_at 57 7 = some ((.iconst (1) : Instr), 8, 0, 0) := by decide +kernel
theorem at_57_8 : mm_at 57 8 = some ((.iadd : Instr), 9, 0, 0) := by decide +kernel
theorem at_57_9 : mm_at 57 9 = some ((.goto (7) : Instr), 12, 16, 0) := by decide +kernel
theorem at_57_12 : mm_at 57 12 = some ((.iload_n 0 : Instr), 13, 0, 0) := by decide +kernel
theorem at_57_13 : mm_at 57 13 = some ((.bipush (9) : Instr), 15, 0, 0) := by decide +kernel
theorem at_57_15 : mm_at 57 15 = some ((.isub : Instr), 16, 0, 0) := by decide +kernel
theorem at_57_16 : mm_at 57 16 = some ((.ireturn : Instr), 17, 1, 0) := by decide +kernel
theorem at_58_0 : mm_at 58 0 = some ((.iload_n 0 : Instr), 1, 0, 0) := by decide +kernel
theorem at_58_1 : mm_at 58 1 = some ((.iload_n 1 : Instr), 2, 0, 0) := by decide +kernel
theorem at_58_2 : mm_at 58 2 = some ((.invokestatic 64 : Instr), 5, 56, 1) := by decide +kernel
theorem at_58_5 : mm_at 58 5 = some ((.if_icmp .ne (7) : Instr), 8, 12, 0) := by decide +kernel
theorem at_58_8 : mm_at 58 8 = some ((.iconst (0) : Instr), 9, 0, 0) := by decide +kernel
theorem at_58_9 : mm_at 58 9 = some ((.goto (4) : Instr), 12, 13, 0) := by decide +kernel
theorem at_58_12 : mm_at 58 12 = some ((.iconst (1) : Instr), 13, 0, 0) := by decide +kernel
theorem at_58_13 : mm_at 58 13 = some ((.ireturn : Instr), 14, 1, 0) := by decide +kernel
theorem at_59_0 : mm_at 59 0 = some ((.aload_n 0 : Instr), 1, 0, 0) := by decide +kernel
theorem at_59_1 : mm_at 59 1 = some ((.aload_n 0 : Instr), 2, 0, 0) := by decide +kernel
theorem at_59_2 : mm_at 59 2 = some ((.iload_n 1 : Instr), 3, 0, 0) := by decide +kernel
theorem at_59_3 : mm_at 59 3 = some ((.invokevirtual 61 : Instr), 6, 55, 2) := by decide +kernel
theorem at_59_6 : mm_at 59 6 = some ((.ifCond .eq (7) : Instr), 9, 13, 0) := by decide +kernel
theorem at_59_9 : mm_at 59 9 = some ((.iconst (0) : Instr), 10, 0, 0) := by decide +kernel
theorem at_59_10 : mm_at 59 10 = some ((.goto (4) : Instr), 13, 14, 0) := by decide +kernel
theorem at_59_13 : mm_at 59 13 = some ((.iconst (1) : Instr), 14, 0, 0) := by decide +kernel
theorem at_59_14 : mm_at 59 14 = some ((.putfield 54 : Instr), 17, 4, 2) := by decide +kernel
theorem at_59_17 : mm_at 59 17 = some ((.aload_n 0 : Instr), 18, 0, 0) := by decide +kernel
theorem at_59_18 : mm_at 59 18 = some ((.getfield 54 : Instr), 21, 4, 2) := by decide +kernel
theorem at_59_21 : mm_at 59 21 = some ((.ifCond .ne (18) : Instr), 24, 39, 0) := by decide +kernel
theorem at_59_24 : mm_at 59 24 = some ((.aload_n 0 : Instr), 25, 0, 0) := by decide +kernel
theorem at_59_25 : mm_at 59 25 = some ((.getfield 23 : Instr), 28, 4, 7) := by decide +kernel
theorem at_59_28 : mm_at 59 28 = some ((.iload_n 1 : Instr), 29, 0, 0) := by decide +kernel
theorem at_59_29 : mm_at 59 29 = some ((.iload_n 2 : Instr), 30, 0, 0) := by decide +kernel
theorem at_59_30 : mm_at 59 30 = some ((.ifCond .ne (7) : Instr), 33, 37, 0) := by decide +kernel
theorem at_59_33 : mm_at 59 33 = some ((.iconst (1) : Instr), 34, 0, 0) := by decide +kernel
theorem at_59_34 : mm_at 59 34 = some ((.goto (4) : Instr), 37, 38, 0) := by decide +kernel
theorem at_59_37 : mm_at 59 37 = some ((.iconst (0) : Instr), 38, 0, 0) := by decide +kernel
theorem at_59_38 : mm_at 59 38 = some ((.bastore : Instr), 39, 0, 0) := by decide +kernel
theorem at_59_39 : mm_at 59 39 = some ((.return_ : Instr), 40, 0, 0) := by decide +kernel
theorem at_60_0 : mm_at 60 0 = some ((.aload_n 0 : Instr), 1, 0, 0) := by decide +kernel
theorem at_60_1 : mm_at 60 1 = some ((.aload_n 0 : Instr), 2, 0, 0) := by decide +kernel
theorem at_60_2 : mm_at 60 2 = some ((.iload_n 1 : Instr), 3, 0, 0) := by decide +kernel
theorem at_60_3 : mm_at 60 3 = some ((.iload_n 2 : Instr), 4, 0, 0) := by decide +kernel
theorem at_60_4 : mm_at 60 4 = some ((.invokevirtual 71 : Instr), 7, 53, 3) := by decide +kernel
theorem at_60_7 : mm_at 60 7 = some ((.ifCond .eq (7) : Instr), 10, 14, 0) := by decide +kernel
theorem at_60_10 : mm_at 60 10 = some ((.iconst (0) : Instr), 11, 0, 0) := by decide +kernel
theorem at_60_11 : mm_at 60 11 = some ((.goto (4) : Instr), 14, 15, 0) := by decide +kernel
theorem at_60_14 : mm_at 60 14 = some ((.iconst (1) : Instr), 15, 0, 0) := by decide +kernel
theorem at_60_15 : mm_at 60 15 = some ((.putfield 54 : Instr), 18, 4, 2) := by decide +kernel
theorem at_60_18 : mm_at 60 18 = some ((.aload_n 0 : Instr), 19, 0, 0) := by decide +kernel
theorem at_60_19 : mm_at 60 19 = some ((.getfield 54 : Instr), 22, 4, 2) := by decide +kernel
theorem at_60_22 : mm_at 60 22 = some ((.ifCond .le (5) : Instr), 25, 27, 0) := by decide +kernel
theorem at_60_25 : mm_at 60 25 = some ((.iconst (0) : Instr), 26, 0, 0) := by decide +kernel
theorem at_60_26 : mm_at 60 26 = some ((.ireturn : Instr), 27, 1, 0) := by decide +kernel
theorem at_60_27 : mm_at 60 27 = some ((.iload_n 1 : Instr), 28, 0, 0) := by decide +kernel
theorem at_60_28 : mm_at 60 28 = some ((.iload_n 2 : Instr), 29, 0, 0) := by decide +kernel
theorem at_60_29 : mm_at 60 29 = some ((.invokestatic 75 : Instr), 32, 58, 2) := by decide +kernel
theorem at_60_32 : mm_at 60 32 = some ((.istore_n 3 : Instr), 33, 0, 0) := by decide +kernel
theorem at_60_33 : mm_at 60 33 = some ((.aload_n 0 : Instr), 34, 0, 0) := by decide +kernel
theorem at_60_34 : mm_at 60 34 = some ((.getfield 26 : Instr), 37, 4, 8) := by decide +kernel
theorem at_60_37 : mm_at 60 37 = some ((.iconst (2) : Instr), 38, 0, 0) := by decide +kernel
theorem at_60_38 : mm_at 60 38 = some ((.iload_n 2 : Instr), 39, 0, 0) := by decide +kernel
theorem at_60_39 : mm_at 60 39 = some ((.imul : Instr), 40, 0, 0) := by decide +kernel
theorem at_60_40 : mm_at 60 40 = some ((.iconst (1) : Instr), 41, 0, 0) := by decide +kernel
theorem at_60_41 : mm_at 60 41 = some ((.iadd : Instr), 42, 0, 0) := by decide +kernel
theorem at_60_42 : mm_at 60 42 = some ((.iload_n 3 : Instr), 43, 0, 0) := by decide +kernel
theorem at_60_43 : mm_at 60 43 = some ((.isub : Instr), 44, 0, 0) := by decide +kernel
theorem at_60_44 : mm_at 60 44 = some ((.baload : Instr), 45, 0, 0) := by decide +kernel
theorem at_60_45 : mm_at 60 45 = some ((.ifCond .eq (12) : Instr), 48, 57, 0) := by decide +kernel
theorem at_60_48 : mm_at 60 48 = some ((.aload_n 0 : Instr), 49, 0, 0) := by decide +kernel
theorem at_60_49 : mm_at 60 49 = some ((.getfield 23 : Instr), 52, 4, 7) := by decide +kernel
theorem at_60_52 : mm_at 60 52 = some ((.iload_n 2 : Instr), 53, 0, 0) := by decide +kernel
theorem at_60_53 : mm_at 60 53 = some ((.baload : Instr), 54, 0, 0) := by decide +kernel
theorem at_60_54 : mm_at 60 54 = some ((.ifCond .eq (25) : Instr), 57, 79, 0) := by decide +kernel
theorem at_60_57 : mm_at 60 57 = some ((.aload_n 0 : Instr), 58, 0, 0) := by decide +kernel
theorem at_60_58 : mm_at 60 58 = some ((.getfield 26 : Instr), 61, 4, 8) := by decide +kernel
theorem at_60_61 : mm_at 60 61 = some ((.iconst (2) : Instr), 62, 0, 0) := by decide +kernel
theorem at_60_62 : mm_at 60 62 = some ((.iload_n 2 : Instr), 63, 0, 0) := by decide +kernel
theorem at_60_63 : mm_at 60 63 = some ((.imul : Instr), 64, 0, 0) := by decide +kernel
theorem at_60_64 : mm_at 60 64 = some ((.iconst (1) : Instr), 65, 0, 0) := by decide +kernel
theorem at_60_65 : mm_at 60 65 = some ((.iadd : Instr), 66, 0, 0) := by decide +kernel
theorem at_60_66 : mm_at 60 66 = some ((.iload_n 3 : Instr), 67, 0, 0) := by decide +kernel
theorem at_60_67 : mm_at 60 67 = some ((.isub : Instr), 68, 0, 0) := by decide +kernel
theorem at_60_68 : mm_at 60 68 = some ((.baload : Instr), 69, 0, 0) := by decide +kernel
theorem at_60_69 : mm_at 60 69 = some ((.ifCond .eq (8) : Instr), 72, 77, 0) := by decide +kernel
theorem at_60_72 : mm_at 60 72 = some ((.bipush (-2) : Instr), 74, 0, 0) := by decide +kernel
theorem at_60_74 : mm_at 60 74 = some ((.goto (4) : Instr), 77, 78, 0) := by decide +kernel
theorem at_60_77 : mm_at 60 77 = some ((.iconst (-1) : Instr), 78, 0, 0) := by decide +kernel
theorem at_60_78 : mm_at 60 78 = some ((.ireturn : Instr), 79, 1, 0) := by decide +kernel
theorem at_60_79 : mm_at 60 79 = some ((.aload_n 0 : Instr), 80, 0, 0) := by decide +kernel
theorem at_60_80 : mm_at 60 80 = some ((.iload_n 2 : Instr), 81, 0, 0) := by decide +kernel
theorem at_60_81 : mm_at 60 81 = some ((.iload_n 3 : Instr), 82, 0, 0) := by decide +kernel
theorem at_60_82 : mm_at 60 82 = some ((.invokevirtual 79 : Instr), 85, 61, 3) := by decide +kernel
theorem at_60_85 : mm_at 60 85 = some ((.istore 4 : Instr), 87, 0, 0) := by decide +kernel
theorem at_60_87 : mm_at 60 87 = some ((.aload_n 0 : Instr), 88, 0, 0) := by decide +kernel
theorem at_60_88 : mm_at 60 88 = some ((.iload_n 2 : Instr), 89, 0, 0) := by decide +kernel
theorem at_60_89 : mm_at 60 89 = some ((.invokevirtual 82 : Instr), 92, 62, 2) := by decide +kernel
theorem at_60_92 : mm_at 60 92 = some ((.ifCond .eq (16) : Instr), 95, 108, 0) := by decide +kernel
theorem at_60_95 : mm_at 60 95 = some ((.iload 4 : Instr), 97, 0, 0) := by decide +kernel
theorem at_60_97 : mm_at 60 97 = some ((.ifCond .lt (11) : Instr), 100, 108, 0) := by decide +kernel
theorem at_60_100 : mm_at 60 100 = some ((.aload_n 0 : Instr), 101, 0, 0) := by decide +kernel
theorem at_60_101 : mm_at 60 101 = some ((.iload_n 2 : Instr), 102, 0, 0) := by decide +kernel
theorem at_60_102 : mm_at 60 102 = some ((.invokevirtual 85 : Instr), 105, 63, 2) := by decide +kernel
theorem at_60_105 : mm_at 60 105 = some ((.ifCond .eq (29) : Instr), 108, 134, 0) := by decide +kernel
theorem at_60_108 : mm_at 60 108 = some ((.aload_n 0 : Instr), 109, 0, 0) := by decide +kernel
theorem at_60_109 : mm_at 60 109 = some ((.iload_n 2 : Instr), 110, 0, 0) := by decide +kernel
theorem at_60_110 : mm_at 60 110 = some ((.invokevirtual 82 : Instr), 113, 62, 2) := by decide +kernel
theorem at_60_113 : mm_at 60 113 = some ((.ifCond .ne (8) : Instr), 116, 121, 0) := by decide +kernel
theorem at_60_116 : mm_at 60 116 = some ((.bipush (-3) : Instr), 118, 0, 0) := by decide +kernel
theorem at_60_118 : mm_at 60 118 = some ((.goto (15) : Instr), 121, 133, 0) := by decide +kernel
theorem at_60_121 : mm_at 60 121 = some ((.iload 4 : Instr), 123, 0, 0) := by decide +kernel
theorem at_60_123 : mm_at 60 123 = some ((.ifCond .ge (8) : Instr), 126, 131, 0) := by decide +kernel
theorem at_60_126 : mm_at 60 126 = some ((.bipush (-4) : Instr), 128, 0, 0) := by decide +kernel
theorem at_60_128 : mm_at 60 128 = some ((.goto (5) : Instr), 131, 133, 0) := by decide +kernel
theorem at_60_131 : mm_at 60 131 = some ((.bipush (-5) : Instr), 133, 0, 0) := by decide +kernel
theorem at_60_133 : mm_at 60 133 = some ((.ireturn : Instr), 134, 1, 0) := by decide +kernel
theorem at_60_134 : mm_at 60 134 = some ((.aload_n 0 : Instr), 135, 0, 0) := by decide +kernel
theorem at_60_135 : mm_at 60 135 = some ((.iload 4 : Instr), 137, 0, 0) := by decide +kernel
theorem at_60_137 : mm_at 60 137 = some ((.bipush (10) : Instr), 139, 0, 0) := by decide +kernel
theorem at_60_139 : mm_at 60 139 = some ((.iload_n 1 : Instr), 140, 0, 0) := by decide +kernel
theorem at_60_140 : mm_at 60 140 = some ((.iadd : Instr), 141, 0, 0) := by decide +kernel
theorem at_60_141 : mm_at 60 141 = some ((.invokevirtual 88 : Instr), 144, 64, 3) := by decide +kernel
theorem at_60_144 : mm_at 60 144 = some ((.aload_n 0 : Instr), 145, 0, 0) := by decide +kernel
theorem at_60_145 : mm_at 60 145 = some ((.getfield 29 : Instr), 148, 4, 9) := by decide +kernel
theorem at_60_148 : mm_at 60 148 = some ((.iconst (2) : Instr), 149, 0, 0) := by decide +kernel
theorem at_60_149 : mm_at 60 149 = some ((.iload_n 2 : Instr), 150, 0, 0) := by decide +kernel
theorem at_60_150 : mm_at 60 150 = some ((.imul : Instr), 151, 0, 0) := by decide +kernel
theorem at_60_151 : mm_at 60 151 = some ((.iload_n 3 : Instr), 152, 0, 0) := by decide +kernel
theorem at_60_152 : mm_at 60 152 = some ((.iadd : Instr), 153, 0, 0) := by decide +kernel
theorem at_60_153 : mm_at 60 153 = some ((.dup2 : Instr), 154, 0, 0) := by decide +kernel
theorem at_60_154 : mm_at 60 154 = some ((.iaload : Instr), 155, 0, 0) := by decide +kernel
theorem at_60_155 : mm_at 60 155 = some ((.iconst (1) : Instr), 156, 0, 0) := by decide +kernel
theorem at_60_156 : mm_at 60 156 = some ((.iadd : Instr), 157, 0, 0) := by decide +kernel
theorem at_60_157 : mm_at 60 157 = some ((.iastore : Instr), 158, 0, 0) := by decide +kernel
theorem at_60_158 : mm_at 60 158 = some ((.bipush (100) : Instr), 160, 0, 0) := by decide +kernel
theorem at_60_160 : mm_at 60 160 = some ((.iload_n 2 : Instr), 161, 0, 0) := by decide +kernel
theorem at_60_161 : mm_at 60 161 = some ((.imul : Instr), 162, 0, 0) := by decide +kernel
theorem at_60_162 : mm_at 60 162 = some ((.iload 4 : Instr), 164, 0, 0) := by decide +kernel
theorem at_60_164 : mm_at 60 164 = some ((.iadd : Instr), 165, 0, 0) := by decide +kernel
theorem at_60_165 : mm_at 60 165 = some ((.bipush (8) : Instr), 167, 0, 0) := by decide +kernel
theorem at_60_167 : mm_at 60 167 = some ((.iload_n 2 : Instr), 168, 0, 0) := by decide +kernel
theorem at_60_168 : mm_at 60 168 = some ((.imul : Instr), 169, 0, 0) := by decide +kernel
theorem at_60_169 : mm_at 60 169 = some ((.isub : Instr), 170, 0, 0) := by decide +kernel
theorem at_60_170 : mm_at 60 170 = some ((.ireturn : Instr), 171, 1, 0) := by decide +kernel
theorem at_61_0 : mm_at 61 0 = some ((.iconst (-1) : Instr), 1, 0, 0) := by decide +kernel
theorem at_61_1 : mm_at 61 1 = some ((.istore_n 3 : Instr), 2, 0, 0) := by decide +kernel
theorem at_61_2 : mm_at 61 2 = some ((.bipush (8) : Instr), 4, 0, 0) := by decide +kernel
theorem at_61_4 : mm_at 61 4 = some ((.iload_n 1 : Instr), 5, 0, 0) := by decide +kernel
theorem at_61_5 : mm_at 61 5 = some ((.imul : Instr), 6, 0, 0) := by decide +kernel
theorem at_61_6 : mm_at 61 6 = some ((.istore 4 : Instr), 8, 0, 0) := by decide +kernel
theorem at_61_8 : mm_at 61 8 = some ((.iload 4 : Instr), 10, 0, 0) := by decide +kernel
theorem at_61_10 : mm_at 61 10 = some ((.bipush (8) : Instr), 12, 0, 0) := by decide +kernel
theorem at_61_12 : mm_at 61 12 = some ((.iload_n 1 : Instr), 13, 0, 0) := by decide +kernel
theorem at_61_13 : mm_at 61 13 = some ((.imul : Instr), 14, 0, 0) := by decide +kernel
theorem at_61_14 : mm_at 61 14 = some ((.aload_n 0 : Instr), 15, 0, 0) := by decide +kernel
theorem at_61_15 : mm_at 61 15 = some ((.getfield 51 : Instr), 18, 4, 1) := by decide +kernel
theorem at_61_18 : mm_at 61 18 = some ((.iadd : Instr), 19, 0, 0) := by decide +kernel
theorem at_61_19 : mm_at 61 19 = some ((.if_icmp .ge (47) : Instr), 22, 66, 0) := by decide +kernel
theorem at_61_22 : mm_at 61 22 = some ((.aload_n 0 : Instr), 23, 0, 0) := by decide +kernel
theorem at_61_23 : mm_at 61 23 = some ((.getfield 33 : Instr), 26, 4, 10) := by decide +kernel
theorem at_61_26 : mm_at 61 26 = some ((.iload 4 : Instr), 28, 0, 0) := by decide +kernel
theorem at_61_28 : mm_at 61 28 = some ((.iaload : Instr), 29, 0, 0) := by decide +kernel
theorem at_61_29 : mm_at 61 29 = some ((.iload_n 2 : Instr), 30, 0, 0) := by decide +kernel
theorem at_61_30 : mm_at 61 30 = some ((.if_icmp .ne (28) : Instr), 33, 58, 0) := by decide +kernel
theorem at_61_33 : mm_at 61 33 = some ((.iload_n 3 : Instr), 34, 0, 0) := by decide +kernel
theorem at_61_34 : mm_at 61 34 = some ((.ifCond .lt (19) : Instr), 37, 53, 0) := by decide +kernel
theorem at_61_37 : mm_at 61 37 = some ((.aload_n 0 : Instr), 38, 0, 0) := by decide +kernel
theorem at_61_38 : mm_at 61 38 = some ((.getfield 36 : Instr), 41, 4, 11) := by decide +kernel
theorem at_61_41 : mm_at 61 41 = some ((.iload 4 : Instr), 43, 0, 0) := by decide +kernel
theorem at_61_43 : mm_at 61 43 = some ((.iaload : Instr), 44, 0, 0) := by decide +kernel
theorem at_61_44 : mm_at 61 44 = some ((.aload_n 0 : Instr), 45, 0, 0) := by decide +kernel
theorem at_61_45 : mm_at 61 45 = some ((.getfield 36 : Instr), 48, 4, 11) := by decide +kernel
theorem at_61_48 : mm_at 61 48 = some ((.iload_n 3 : Instr), 49, 0, 0) := by decide +kernel
theorem at_61_49 : mm_at 61 49 = some ((.iaload : Instr), 50, 0, 0) := by decide +kernel
theorem at_61_50 : mm_at 61 50 = some ((.if_icmp .le (8) : Instr), 53, 58, 0) := by decide +kernel
theorem at_61_53 : mm_at 61 53 = some ((.iload 4 : Instr), 55, 0, 0) := by decide +kernel
theorem at_61_55 : mm_at 61 55 = some ((.goto (4) : Instr), 58, 59, 0) := by decide +kernel
theorem at_61_58 : mm_at 61 58 = some ((.iload_n 3 : Instr), 59, 0, 0) := by decide +kernel
theorem at_61_59 : mm_at 61 59 = some ((.istore_n 3 : Instr), 60, 0, 0) := by decide +kernel
theorem at_61_60 : mm_at 61 60 = some ((.iinc 4 (1) : Instr), 63, 0, 0) := by decide +kernel
theorem at_61_63 : mm_at 61 63 = some ((.goto (-55) : Instr), 66, 8, 0) := by decide +kernel
theorem at_61_66 : mm_at 61 66 = some ((.iload_n 3 : Instr), 67, 0, 0) := by decide +kernel
theorem at_61_67 : mm_at 61 67 = some ((.ireturn : Instr), 68, 1, 0) := by decide +kernel
theorem at_62_0 : mm_at 62 0 = some ((.iconst (1) : Instr), 1, 0, 0) := by decide +kernel
theorem at_62_1 : mm_at 62 1 = some ((.istore_n 2 : Instr), 2, 0, 0) := by decide +kernel
theorem at_62_2 : mm_at 62 2 = some ((.bipush (8) : Instr), 4, 0, 0) := by decide +kernel
theorem at_62_4 : mm_at 62 4 = some ((.iload_n 1 : Instr), 5, 0, 0) := by decide +kernel
theorem at_62_5 : mm_at 62 5 = some ((.imul : Instr), 6, 0, 0) := by decide +kernel
theorem at_62_6 : mm_at 62 6 = some ((.istore_n 3 : Instr), 7, 0, 0) := by decide +kernel
theorem at_62_7 : mm_at 62 7 = some ((.iload_n 3 : Instr), 8, 0, 0) := by decide +kernel
theorem at_62_8 : mm_at 62 8 = some ((.bipush (8) : Instr), 10, 0, 0) := by decide +kernel
theorem at_62_10 : mm_at 62 10 = some ((.iload_n 1 : Instr), 11, 0, 0) := by decide +kernel
theorem at_62_11 : mm_at 62 11 = some ((.imul : Instr), 12, 0, 0) := by decide +kernel
theorem at_62_12 : mm_at 62 12 = some ((.aload_n 0 : Instr), 13, 0, 0) := by decide +kernel
theorem at_62_13 : mm_at 62 13 = some ((.getfield 51 : Instr), 16, 4, 1) := by decide +kernel
theorem at_62_16 : mm_at 62 16 = some ((.iadd : Instr), 17, 0, 0) := by decide +kernel
theorem at_62_17 : mm_at 62 17 = some ((.if_icmp .ge (29) : Instr), 20, 46, 0) := by decide +kernel
theorem at_62_20 : mm_at 62 20 = some ((.iload_n 2 : Instr), 21, 0, 0) := by decide +kernel
theorem at_62_21 : mm_at 62 21 = some ((.ifCond .eq (17) : Instr), 24, 38, 0) := by decide +kernel
theorem at_62_24 : mm_at 62 24 = some ((.aload_n 0 : Instr), 25, 0, 0) := by decide +kernel
theorem at_62_25 : mm_at 62 25 = some ((.getfield 33 : Instr), 28, 4, 10) := by decide +kernel
theorem at_62_28 : mm_at 62 28 = some ((.iload_n 3 : Instr), 29, 0, 0) := by decide +kernel
theorem at_62_29 : mm_at 62 29 = some ((.iaload : Instr), 30, 0, 0) := by decide +kernel
theorem at_62_30 : mm_at 62 30 = some ((.iconst (2) : Instr), 31, 0, 0) := by decide +kernel
theorem at_62_31 : mm_at 62 31 = some ((.if_icmp .ge (7) : Instr), 34, 38, 0) := by decide +kernel
theorem at_62_34 : mm_at 62 34 = some ((.iconst (1) : Instr), 35, 0, 0) := by decide +kernel
theorem at_62_35 : mm_at 62 35 = some ((.goto (4) : Instr), 38, 39, 0) := by decide +kernel
theorem at_62_38 : mm_at 62 38 = some ((.iconst (0) : Instr), 39, 0, 0) := by decide +kernel
theorem at_62_39 : mm_at 62 39 = some ((.istore_n 2 : Instr), 40, 0, 0) := by decide +kernel
theorem at_62_40 : mm_at 62 40 = some ((.iinc 3 (1) : Instr), 43, 0, 0) := by decide +kernel
theorem at_62_43 : mm_at 62 43 = some ((.goto (-36) : Instr), 46, 7, 0) := by decide +kernel
theorem at_62_46 : mm_at 62 46 = some ((.iload_n 2 : Instr), 47, 0, 0) := by decide +kernel
theorem at_62_47 : mm_at 62 47 = some ((.ireturn : Instr), 48, 2, 0) := by decide +kernel
theorem at_63_0 : mm_at 63 0 = some ((.iload_n 1 : Instr), 1, 0, 0) := by decide +kernel
theorem at_63_1 : mm_at 63 1 = some ((.bipush (10) : Instr), 3, 0, 0) := by decide +kernel
theorem at_63_3 : mm_at 63 3 = some ((.if_icmp .ge (31) : Instr), 6, 34, 0) := by decide +kernel
theorem at_63_6 : mm_at 63 6 = some ((.aload_n 0 : Instr), 7, 0, 0) := by decide +kernel
theorem at_63_7 : mm_at 63 7 = some ((.getfield 17 : Instr), 10, 4, 5) := by decide +kernel
theorem at_63_10 : mm_at 63 10 = some ((.iload_n 1 : Instr), 11, 0, 0) := by decide +kernel
theorem at_63_11 : mm_at 63 11 = some ((.baload : Instr), 12, 0, 0) := by decide +kernel
theorem at_63_12 : mm_at 63 12 = some ((.ifCond .ne (14) : Instr), 15, 26, 0) := by decide +kernel
theorem at_63_15 : mm_at 63 15 = some ((.aload_n 0 : Instr), 16, 0, 0) := by decide +kernel
theorem at_63_16 : mm_at 63 16 = some ((.getfield 17 : Instr), 19, 4, 5) := by decide +kernel
theorem at_63_19 : mm_at 63 19 = some ((.iload_n 1 : Instr), 20, 0, 0) := by decide +kernel
theorem at_63_20 : mm_at 63 20 = some ((.iconst (1) : Instr), 21, 0, 0) := by decide +kernel
theorem at_63_21 : mm_at 63 21 = some ((.iadd : Instr), 22, 0, 0) := by decide +kernel
theorem at_63_22 : mm_at 63 22 = some ((.baload : Instr), 23, 0, 0) := by decide +kernel
theorem at_63_23 : mm_at 63 23 = some ((.ifCond .eq (7) : Instr), 26, 30, 0) := by decide +kernel
theorem at_63_26 : mm_at 63 26 = some ((.iconst (1) : Instr), 27, 0, 0) := by decide +kernel
theorem at_63_27 : mm_at 63 27 = some ((.goto (24) : Instr), 30, 51, 0) := by decide +kernel
theorem at_63_30 : mm_at 63 30 = some ((.iconst (0) : Instr), 31, 0, 0) := by decide +kernel
theorem at_63_31 : mm_at 63 31 = some ((.goto (20) : Instr), 34, 51, 0) := by decide +kernel
theorem at_63_34 : mm_at 63 34 = some ((.aload_n 0 : Instr), 35, 0, 0) := by decide +kernel
theorem at_63_35 : mm_at 63 35 = some ((.getfield 17 : Instr), 38, 4, 5) := by decide +kernel
theorem at_63_38 : mm_at 63 38 = some ((.iload_n 1 : Instr), 39, 0, 0) := by decide +kernel
theorem at_63_39 : mm_at 63 39 = some ((.bipush (10) : Instr), 41, 0, 0) := by decide +kernel
theorem at_63_41 : mm_at 63 41 = some ((.isub : Instr), 42, 0, 0) := by decide +kernel
theorem at_63_42 : mm_at 63 42 = some ((.baload : Instr), 43, 0, 0) := by decide +kernel
theorem at_63_43 : mm_at 63 43 = some ((.ifCond .ne (7) : Instr), 46, 50, 0) := by decide +kernel
theorem at_63_46 : mm_at 63 46 = some ((.iconst (1) : Instr), 47, 0, 0) := by decide +kernel
theorem at_63_47 : mm_at 63 47 = some ((.goto (4) : Instr), 50, 51, 0) := by decide +kernel
theorem at_63_50 : mm_at 63 50 = some ((.iconst (0) : Instr), 51, 0, 0) := by decide +kernel
theorem at_63_51 : mm_at 63 51 = some ((.ireturn : Instr), 52, 2, 0) := by decide +kernel
theorem at_64_0 : mm_at 64 0 = some ((.aload_n 0 : Instr), 1, 0, 0) := by decide +kernel
theorem at_64_1 : mm_at 64 1 = some ((.getfield 33 : Instr), 4, 4, 10) := by decide +kernel
theorem at_64_4 : mm_at 64 4 = some ((.iload_n 1 : Instr), 5, 0, 0) := by decide +kernel
theorem at_64_5 : mm_at 64 5 = some ((.iload_n 2 : Instr), 6, 0, 0) := by decide +kernel
theorem at_64_6 : mm_at 64 6 = some ((.iastore : Instr), 7, 0, 0) := by decide +kernel
theorem at_64_7 : mm_at 64 7 = some ((.aload_n 0 : Instr), 8, 0, 0) := by decide +kernel
theorem at_64_8 : mm_at 64 8 = some ((.getfield 36 : Instr), 11, 4, 11) := by decide +kernel
theorem at_64_11 : mm_at 64 11 = some ((.iload_n 1 : Instr), 12, 0, 0) := by decide +kernel
theorem at_64_12 : mm_at 64 12 = some ((.aload_n 0 : Instr), 13, 0, 0) := by decide +kernel
theorem at_64_13 : mm_at 64 13 = some ((.getfield 7 : Instr), 16, 4, 3) := by decide +kernel
theorem at_64_16 : mm_at 64 16 = some ((.iastore : Instr), 17, 0, 0) := by decide +kernel
theorem at_64_17 : mm_at 64 17 = some ((.aload_n 0 : Instr), 18, 0, 0) := by decide +kernel
theorem at_64_18 : mm_at 64 18 = some ((.dup : Instr), 19, 0, 0) := by decide +kernel
theorem at_64_19 : mm_at 64 19 = some ((.getfield 7 : Instr), 22, 4, 3) := by decide +kernel
theorem at_64_22 : mm_at 64 22 = some ((.iconst (1) : Instr), 23, 0, 0) := by decide +kernel
theorem at_64_23 : mm_at 64 23 = some ((.iadd : Instr), 24, 0, 0) := by decide +kernel
theorem at_64_24 : mm_at 64 24 = some ((.putfield 7 : Instr), 27, 4, 3) := by decide +kernel
theorem at_64_27 : mm_at 64 27 = some ((.return_ : Instr), 28, 0, 0) := by decide +kernel
theorem at_65_0 : mm_at 65 0 = some ((.aload_n 0 : Instr), 1, 0, 0) := by decide +kernel
theorem at_65_1 : mm_at 65 1 = some ((.aload_n 0 : Instr), 2, 0, 0) := by decide +kernel
theorem at_65_2 : mm_at 65 2 = some ((.iload_n 1 : Instr), 3, 0, 0) := by decide +kernel
theorem at_65_3 : mm_at 65 3 = some ((.iload_n 2 : Instr), 4, 0, 0) := by decide +kernel
theorem at_65_4 : mm_at 65 4 = some ((.invokevirtual 71 : Instr), 7, 53, 3) := by decide +kernel
theorem at_65_7 : mm_at 65 7 = some ((.ifCond .eq (23) : Instr), 10, 30, 0) := by decide +kernel
theorem at_65_10 : mm_at 65 10 = some ((.aload_n 0 : Instr), 11, 0, 0) := by decide +kernel
theorem at_65_11 : mm_at 65 11 = some ((.iload_n 3 : Instr), 12, 0, 0) := by decide +kernel
theorem at_65_12 : mm_at 65 12 = some ((.invokevirtual 92 : Instr), 15, 66, 2) := by decide +kernel
theorem at_65_15 : mm_at 65 15 = some ((.ifCond .eq (15) : Instr), 18, 30, 0) := by decide +kernel
theorem at_65_18 : mm_at 65 18 = some ((.iload_n 3 : Instr), 19, 0, 0) := by decide +kernel
theorem at_65_19 : mm_at 65 19 = some ((.bipush (100) : Instr), 21, 0, 0) := by decide +kernel
theorem at_65_21 : mm_at 65 21 = some ((.idiv : Instr), 22, 0, 0) := by decide +kernel
theorem at_65_22 : mm_at 65 22 = some ((.iload_n 2 : Instr), 23, 0, 0) := by decide +kernel
theorem at_65_23 : mm_at 65 23 = some ((.if_icmp .ne (7) : Instr), 26, 30, 0) := by decide +kernel
theorem at_65_26 : mm_at 65 26 = some ((.iconst (0) : Instr), 27, 0, 0) := by decide +kernel
theorem at_65_27 : mm_at 65 27 = some ((.goto (4) : Instr), 30, 31, 0) := by decide +kernel
theorem at_65_30 : mm_at 65 30 = some ((.iconst (1) : Instr), 31, 0, 0) := by decide +kernel
theorem at_65_31 : mm_at 65 31 = some ((.putfield 54 : Instr), 34, 4, 2) := by decide +kernel
theorem at_65_34 : mm_at 65 34 = some ((.aload_n 0 : Instr), 35, 0, 0) := by decide +kernel
theorem at_65_35 : mm_at 65 35 = some ((.getfield 54 : Instr), 38, 4, 2) := by decide +kernel
theorem at_65_38 : mm_at 65 38 = some ((.ifCond .le (4) : Instr), 41, 42, 0) := by decide +kernel
theorem at_65_41 : mm_at 65 41 = some ((.return_ : Instr), 42, 0, 0) := by decide +kernel
theorem at_65_42 : mm_at 65 42 = some ((.iload_n 3 : Instr), 43, 0, 0) := by decide +kernel
theorem at_65_43 : mm_at 65 43 = some ((.invokestatic 95 : Instr), 46, 67, 1) := by decide +kernel
theorem at_65_46 : mm_at 65 46 = some ((.istore 4 : Instr), 48, 0, 0) := by decide +kernel
theorem at_65_48 : mm_at 65 48 = some ((.aload_n 0 : Instr), 49, 0, 0) := by decide +kernel
theorem at_65_49 : mm_at 65 49 = some ((.getfield 33 : Instr), 52, 4, 10) := by decide +kernel
theorem at_65_52 : mm_at 65 52 = some ((.iload 4 : Instr), 54, 0, 0) := by decide +kernel
theorem at_65_54 : mm_at 65 54 = some ((.iaload : Instr), 55, 0, 0) := by decide +kernel
theorem at_65_55 : mm_at 65 55 = some ((.bipush (20) : Instr), 57, 0, 0) := by decide +kernel
theorem at_65_57 : mm_at 65 57 = some ((.isub : Instr), 58, 0, 0) := by decide +kernel
theorem at_65_58 : mm_at 65 58 = some ((.istore 5 : Instr), 60, 0, 0) := by decide +kernel
theorem at_65_60 : mm_at 65 60 = some ((.aload_n 0 : Instr), 61, 0, 0) := by decide +kernel
theorem at_65_61 : mm_at 65 61 = some ((.aload_n 0 : Instr), 62, 0, 0) := by decide +kernel
theorem at_65_62 : mm_at 65 62 = some ((.getfield 33 : Instr), 65, 4, 10) := by decide +kernel
theorem at_65_65 : mm_at 65 65 = some ((.iload 4 : Instr), 67, 0, 0) := by decide +kernel
theorem at_65_67 : mm_at 65 67 = some ((.iaload : Instr), 68, 0, 0) := by decide +kernel
theorem at_65_68 : mm_at 65 68 = some ((.bipush (10) : Instr), 70, 0, 0) := by decide +kernel
theorem at_65_70 : mm_at 65 70 = some ((.iload_n 1 : Instr), 71, 0, 0) := by decide +kernel
theorem at_65_71 : mm_at 65 71 = some ((.iadd : Instr), 72, 0, 0) := by decide +kernel
theorem at_65_72 : mm_at 65 72 = some ((.if_icmp .eq (29) : Instr), 75, 101, 0) := by decide +kernel
theorem at_65_75 : mm_at 65 75 = some ((.iload 5 : Instr), 77, 0, 0) := by decide +kernel
theorem at_65_77 : mm_at 65 77 = some ((.ifCond .lt (28) : Instr), 80, 105, 0) := by decide +kernel
theorem at_65_80 : mm_at 65 80 = some ((.aload_n 0 : Instr), 81, 0, 0) := by decide +kernel
theorem at_65_81 : mm_at 65 81 = some ((.getfield 45 : Instr), 84, 4, 14) := by decide +kernel
theorem at_65_84 : mm_at 65 84 = some ((.iload 5 : Instr), 86, 0, 0) := by decide +kernel
theorem at_65_86 : mm_at 65 86 = some ((.iaload : Instr), 87, 0, 0) := by decide +kernel
theorem at_65_87 : mm_at 65 87 = some ((.ifCond .ge (18) : Instr), 90, 105, 0) := by decide +kernel
theorem at_65_90 : mm_at 65 90 = some ((.aload_n 0 : Instr), 91, 0, 0) := by decide +kernel
theorem at_65_91 : mm_at 65 91 = some ((.getfield 42 : Instr), 94, 4, 13) := by decide +kernel
theorem at_65_94 : mm_at 65 94 = some ((.iload 5 : Instr), 96, 0, 0) := by decide +kernel
theorem at_65_96 : mm_at 65 96 = some ((.iaload : Instr), 97, 0, 0) := by decide +kernel
theorem at_65_97 : mm_at 65 97 = some ((.iload_n 1 : Instr), 98, 0, 0) := by decide +kernel
theorem at_65_98 : mm_at 65 98 = some ((.if_icmp .ne (7) : Instr), 101, 105, 0) := by decide +kernel
theorem at_65_101 : mm_at 65 101 = some ((.iconst (0) : Instr), 102, 0, 0) := by decide +kernel
theorem at_65_102 : mm_at 65 102 = some ((.goto (4) : Instr), 105, 106, 0) := by decide +kernel
theorem at_65_105 : mm_at 65 105 = some ((.iconst (2) : Instr), 106, 0, 0) := by decide +kernel
theorem at_65_106 : mm_at 65 106 = some ((.putfield 54 : Instr), 109, 4, 2) := by decide +kernel
theorem at_65_109 : mm_at 65 109 = some ((.aload_n 0 : Instr), 110, 0, 0) := by decide +kernel
theorem at_65_110 : mm_at 65 110 = some ((.getfield 54 : Instr), 113, 4, 2) := by decide +kernel
theorem at_65_113 : mm_at 65 113 = some ((.ifCond .ne (32) : Instr), 116, 145, 0) := by decide +kernel
theorem at_65_116 : mm_at 65 116 = some ((.aload_n 0 : Instr), 117, 0, 0) := by decide +kernel
theorem at_65_117 : mm_at 65 117 = some ((.iload 4 : Instr), 119, 0, 0) := by decide +kernel
theorem at_65_119 : mm_at 65 119 = some ((.iload_n 1 : Instr), 120, 0, 0) := by decide +kernel
theorem at_65_120 : mm_at 65 120 = some ((.iload_n 2 : Instr), 121, 0, 0) := by decide +kernel
theorem at_65_121 : mm_at 65 121 = some ((.invokestatic 75 : Instr), 124, 58, 2) := by decide +kernel
theorem at_65_124 : mm_at 65 124 = some ((.invokevirtual 88 : Instr), 127, 64, 3) := by decide +kernel
theorem at_65_127 : mm_at 65 127 = some ((.aload_n 0 : Instr), 128, 0, 0) := by decide +kernel
theorem at_65_128 : mm_at 65 128 = some ((.getfield 29 : Instr), 131, 4, 9) := by decide +kernel
theorem at_65_131 : mm_at 65 131 = some ((.iconst (2) : Instr), 132, 0, 0) := by decide +kernel
theorem at_65_132 : mm_at 65 132 = some ((.iload_n 2 : Instr), 133, 0, 0) := by decide +kernel
theorem at_65_133 : mm_at 65 133 = some ((.imul : Instr), 134, 0, 0) := by decide +kernel
theorem at_65_134 : mm_at 65 134 = some ((.iload_n 1 : Instr), 135, 0, 0) := by decide +kernel
theorem at_65_135 : mm_at 65 135 = some ((.iload_n 2 : Instr), 136, 0, 0) := by decide +kernel
theorem at_65_136 : mm_at 65 136 = some ((.invokestatic 75 : Instr), 139, 58, 2) := by decide +kernel
theorem at_65_139 : mm_at 65 139 = some ((.iadd : Instr), 140, 0, 0) := by decide +kernel
theorem at_65_140 : mm_at 65 140 = some ((.dup2 : Instr), 141, 0, 0) := by decide +kernel
theorem at_65_141 : mm_at 65 141 = some ((.iaload : Instr), 142, 0, 0) := by decide +kernel
theorem at_65_142 : mm_at 65 142 = some ((.iconst (1) : Instr), 143, 0, 0) := by decide +kernel
theorem at_65_143 : mm_at 65 143 = some ((.iadd : Instr), 144, 0, 0) := by decide +kernel
theorem at_65_144 : mm_at 65 144 = some ((.iastore : Instr), 145, 0, 0) := by decide +kernel
theorem at_65_145 : mm_at 65 145 = some ((.return_ : Instr), 146, 0, 0) := by decide +kernel
theorem at_66_0 : mm_at 66 0 = some ((.iload_n 1 : Instr), 1, 0, 0) := by decide +kernel
theorem at_66_1 : mm_at 66 1 = some ((.ifCond .lt (29) : Instr), 4, 30, 0) := by decide +kernel
theorem at_66_4 : mm_at 66 4 = some ((.iload_n 1 : Instr), 5, 0, 0) := by decide +kernel
theorem at_66_5 : mm_at 66 5 = some ((.bipush (100) : Instr), 7, 0, 0) := by decide +kernel
theorem at_66_7 : mm_at 66 7 = some ((.irem : Instr), 8, 0, 0) := by decide +kernel
theorem at_66_8 : mm_at 66 8 = some ((.aload_n 0 : Instr), 9, 0, 0) := by decide +kernel
theorem at_66_9 : mm_at 66 9 = some ((.getfield 51 : Instr), 12, 4, 1) := by decide +kernel
theorem at_66_12 : mm_at 66 12 = some ((.if_icmp .ge (18) : Instr), 15, 30, 0) := by decide +kernel
theorem at_66_15 : mm_at 66 15 = some ((.aload_n 0 : Instr), 16, 0, 0) := by decide +kernel
theorem at_66_16 : mm_at 66 16 = some ((.iload_n 1 : Instr), 17, 0, 0) := by decide +kernel
theorem at_66_17 : mm_at 66 17 = some ((.bipush (100) : Instr), 19, 0, 0) := by decide +kernel
theorem at_66_19 : mm_at 66 19 = some ((.idiv : Instr), 20, 0, 0) := by decide +kernel
theorem at_66_20 : mm_at 66 20 = some ((.invokevirtual 61 : Instr), 23, 55, 2) := by decide +kernel
theorem at_66_23 : mm_at 66 23 = some ((.ifCond .eq (7) : Instr), 26, 30, 0) := by decide +kernel
theorem at_66_26 : mm_at 66 26 = some ((.iconst (1) : Instr), 27, 0, 0) := by decide +kernel
theorem at_66_27 : mm_at 66 27 = some ((.goto (4) : Instr), 30, 31, 0) := by decide +kernel
theorem at_66_30 : mm_at 66 30 = some ((.iconst (0) : Instr), 31, 0, 0) := by decide +kernel
theorem at_66_31 : mm_at 66 31 = some ((.ireturn : Instr), 32, 2, 0) := by decide +kernel
theorem at_67_0 : mm_at 67 0 = some ((.bipush (8) : Instr), 2, 0, 0) := by decide +kernel
theorem at_67_2 : mm_at 67 2 = some ((.iload_n 0 : Instr), 3, 0, 0) := by decide +kernel
theorem at_67_3 : mm_at 67 3 = some ((.bipush (100) : Instr), 5, 0, 0) := by decide +kernel
theorem at_67_5 : mm_at 67 5 = some ((.idiv : Instr), 6, 0, 0) := by decide +kernel
theorem at_67_6 : mm_at 67 6 = some ((.imul : Instr), 7, 0, 0) := by decide +kernel
theorem at_67_7 : mm_at 67 7 = some ((.iload_n 0 : Instr), 8, 0, 0) := by decide +kernel
theorem at_67_8 : mm_at 67 8 = some ((.bipush (100) : Instr), 10, 0, 0) := by decide +kernel
theorem at_67_10 : mm_at 67 10 = some ((.irem : Instr), 11, 0, 0) := by decide +kernel
theorem at_67_11 : mm_at 67 11 = some ((.iadd : Instr), 12, 0, 0) := by decide +kernel
theorem at_67_12 : mm_at 67 12 = some ((.ireturn : Instr), 13, 1, 0) := by decide +kernel
theorem at_68_0 : mm_at 68 0 = some ((.aload_n 0 : Instr), 1, 0, 0) := by decide +kernel
theorem at_68_1 : mm_at 68 1 = some ((.iload_n 1 : Instr), 2, 0, 0) := by decide +kernel
theorem at_68_2 : mm_at 68 2 = some ((.ifCond .lt (17) : Instr), 5, 19, 0) := by decide +kernel
theorem at_68_5 : mm_at 68 5 = some ((.iload_n 1 : Instr), 6, 0, 0) := by decide +kernel
theorem at_68_6 : mm_at 68 6 = some ((.bipush (7) : Instr), 8, 0, 0) := by decide +kernel
theorem at_68_8 : mm_at 68 8 = some ((.if_icmp .gt (11) : Instr), 11, 19, 0) := by decide +kernel
theorem at_68_11 : mm_at 68 11 = some ((.aload_n 0 : Instr), 12, 0, 0) := by decide +kernel
theorem at_68_12 : mm_at 68 12 = some ((.iload_n 2 : Instr), 13, 0, 0) := by decide +kernel
theorem at_68_13 : mm_at 68 13 = some ((.invokevirtual 57 : Instr), 16, 54, 2) := by decide +kernel
theorem at_68_16 : mm_at 68 16 = some ((.ifCond .ne (7) : Instr), 19, 23, 0) := by decide +kernel
theorem at_68_19 : mm_at 68 19 = some ((.iconst (1) : Instr), 20, 0, 0) := by decide +kernel
theorem at_68_20 : mm_at 68 20 = some ((.goto (17) : Instr), 23, 37, 0) := by decide +kernel
theorem at_68_23 : mm_at 68 23 = some ((.aload_n 0 : Instr), 24, 0, 0) := by decide +kernel
theorem at_68_24 : mm_at 68 24 = some ((.getfield 39 : Instr), 27, 4, 12) := by decide +kernel
theorem at_68_27 : mm_at 68 27 = some ((.iload_n 1 : Instr), 28, 0, 0) := by decide +kernel
theorem at_68_28 : mm_at 68 28 = some ((.baload : Instr), 29, 0, 0) := by decide +kernel
theorem at_68_29 : mm_at 68 29 = some ((.ifCond .eq (7) : Instr), 32, 36, 0) := by decide +kernel
theorem at_68_32 : mm_at 68 32 = some ((.iconst (2) : Instr), 33, 0, 0) := by decide +kernel
theorem at_68_33 : mm_at 68 33 = some ((.goto (4) : Instr), 36, 37, 0) := by decide +kernel
theorem at_68_36 : mm_at 68 36 = some ((.iconst (0) : Instr), 37, 0, 0) := by decide +kernel
theorem at_68_37 : mm_at 68 37 = some ((.putfield 54 : Instr), 40, 4, 2) := by decide +kernel
theorem at_68_40 : mm_at 68 40 = some ((.aload_n 0 : Instr), 41, 0, 0) := by decide +kernel
theorem at_68_41 : mm_at 68 41 = some ((.getfield 54 : Instr), 44, 4, 2) := by decide +kernel
theorem at_68_44 : mm_at 68 44 = some ((.ifCond .ne (17) : Instr), 47, 61, 0) := by decide +kernel
theorem at_68_47 : mm_at 68 47 = some ((.aload_n 0 : Instr), 48, 0, 0) := by decide +kernel
theorem at_68_48 : mm_at 68 48 = some ((.getfield 39 : Instr), 51, 4, 12) := by decide +kernel
theorem at_68_51 : mm_at 68 51 = some ((.iload_n 1 : Instr), 52, 0, 0) := by decide +kernel
theorem at_68_52 : mm_at 68 52 = some ((.iconst (1) : Instr), 53, 0, 0) := by decide +kernel
theorem at_68_53 : mm_at 68 53 = some ((.bastore : Instr), 54, 0, 0) := by decide +kernel
theorem at_68_54 : mm_at 68 54 = some ((.aload_n 0 : Instr), 55, 0, 0) := by decide +kernel
theorem at_68_55 : mm_at 68 55 = some ((.getfield 42 : Instr), 58, 4, 13) := by decide +kernel
theorem at_68_58 : mm_at 68 58 = some ((.iload_n 1 : Instr), 59, 0, 0) := by decide +kernel
theorem at_68_59 : mm_at 68 59 = some ((.iload_n 2 : Instr), 60, 0, 0) := by decide +kernel
theorem at_68_60 : mm_at 68 60 = some ((.iastore : Instr), 61, 0, 0) := by decide +kernel
theorem at_68_61 : mm_at 68 61 = some ((.return_ : Instr), 62, 0, 0) := by decide +kernel
theorem at_69_0 : mm_at 69 0 = some ((.aload_n 0 : Instr), 1, 0, 0) := by decide +kernel
theorem at_69_1 : mm_at 69 1 = some ((.aload_n 0 : Instr), 2, 0, 0) := by decide +kernel
theorem at_69_2 : mm_at 69 2 = some ((.iload_n 1 : Instr), 3, 0, 0) := by decide +kernel
theorem at_69_3 : mm_at 69 3 = some ((.invokevirtual 98 : Instr), 6, 70, 2) := by decide +kernel
theorem at_69_6 : mm_at 69 6 = some ((.ifCond .eq (15) : Instr), 9, 21, 0) := by decide +kernel
theorem at_69_9 : mm_at 69 9 = some ((.aload_n 0 : Instr), 10, 0, 0) := by decide +kernel
theorem at_69_10 : mm_at 69 10 = some ((.iload_n 2 : Instr), 11, 0, 0) := by decide +kernel
theorem at_69_11 : mm_at 69 11 = some ((.invokevirtual 92 : Instr), 14, 66, 2) := by decide +kernel
theorem at_69_14 : mm_at 69 14 = some ((.ifCond .eq (7) : Instr), 17, 21, 0) := by decide +kernel
theorem at_69_17 : mm_at 69 17 = some ((.iconst (0) : Instr), 18, 0, 0) := by decide +kernel
theorem at_69_18 : mm_at 69 18 = some ((.goto (4) : Instr), 21, 22, 0) := by decide +kernel
theorem at_69_21 : mm_at 69 21 = some ((.iconst (1) : Instr), 22, 0, 0) := by decide +kernel
theorem at_69_22 : mm_at 69 22 = some ((.putfield 54 : Instr), 25, 4, 2) := by decide +kernel
theorem at_69_25 : mm_at 69 25 = some ((.aload_n 0 : Instr), 26, 0, 0) := by decide +kernel
theorem at_69_26 : mm_at 69 26 = some ((.getfield 54 : Instr), 29, 4, 2) := by decide +kernel
theorem at_69_29 : mm_at 69 29 = some ((.ifCond .le (4) : Instr), 32, 33, 0) := by decide +kernel
theorem at_69_32 : mm_at 69 32 = some ((.return_ : Instr), 33, 0, 0) := by decide +kernel
theorem at_69_33 : mm_at 69 33 = some ((.aload_n 0 : Instr), 34, 0, 0) := by decide +kernel
theorem at_69_34 : mm_at 69 34 = some ((.aload_n 0 : Instr), 35, 0, 0) := by decide +kernel
theorem at_69_35 : mm_at 69 35 = some ((.getfield 45 : Instr), 38, 4, 14) := by decide +kernel
theorem at_69_38 : mm_at 69 38 = some ((.iload_n 1 : Instr), 39, 0, 0) := by decide +kernel
theorem at_69_39 : mm_at 69 39 = some ((.iaload : Instr), 40, 0, 0) := by decide +kernel
theorem at_69_40 : mm_at 69 40 = some ((.ifCond .ge (36) : Instr), 43, 76, 0) := by decide +kernel
theorem at_69_43 : mm_at 69 43 = some ((.aload_n 0 : Instr), 44, 0, 0) := by decide +kernel
theorem at_69_44 : mm_at 69 44 = some ((.getfield 33 : Instr), 47, 4, 10) := by decide +kernel
theorem at_69_47 : mm_at 69 47 = some ((.iload_n 2 : Instr), 48, 0, 0) := by decide +kernel
theorem at_69_48 : mm_at 69 48 = some ((.invokestatic 95 : Instr), 51, 67, 1) := by decide +kernel
theorem at_69_51 : mm_at 69 51 = some ((.iaload : Instr), 52, 0, 0) := by decide +kernel
theorem at_69_52 : mm_at 69 52 = some ((.bipush (10) : Instr), 54, 0, 0) := by decide +kernel
theorem at_69_54 : mm_at 69 54 = some ((.aload_n 0 : Instr), 55, 0, 0) := by decide +kernel
theorem at_69_55 : mm_at 69 55 = some ((.getfield 42 : Instr), 58, 4, 13) := by decide +kernel
theorem at_69_58 : mm_at 69 58 = some ((.iload_n 1 : Instr), 59, 0, 0) := by decide +kernel
theorem at_69_59 : mm_at 69 59 = some ((.iaload : Instr), 60, 0, 0) := by decide +kernel
theorem at_69_60 : mm_at 69 60 = some ((.iadd : Instr), 61, 0, 0) := by decide +kernel
theorem at_69_61 : mm_at 69 61 = some ((.if_icmp .ne (15) : Instr), 64, 76, 0) := by decide +kernel
theorem at_69_64 : mm_at 69 64 = some ((.aload_n 0 : Instr), 65, 0, 0) := by decide +kernel
theorem at_69_65 : mm_at 69 65 = some ((.iload_n 1 : Instr), 66, 0, 0) := by decide +kernel
theorem at_69_66 : mm_at 69 66 = some ((.invokevirtual 101 : Instr), 69, 71, 2) := by decide +kernel
theorem at_69_69 : mm_at 69 69 = some ((.ifCond .ge (7) : Instr), 72, 76, 0) := by decide +kernel
theorem at_69_72 : mm_at 69 72 = some ((.iconst (0) : Instr), 73, 0, 0) := by decide +kernel
theorem at_69_73 : mm_at 69 73 = some ((.goto (4) : Instr), 76, 77, 0) := by decide +kernel
theorem at_69_76 : mm_at 69 76 = some ((.iconst (2) : Instr), 77, 0, 0) := by decide +kernel
theorem at_69_77 : mm_at 69 77 = some ((.putfield 54 : Instr), 80, 4, 2) := by decide +kernel
theorem at_69_80 : mm_at 69 80 = some ((.aload_n 0 : Instr), 81, 0, 0) := by decide +kernel
theorem at_69_81 : mm_at 69 81 = some ((.getfield 54 : Instr), 84, 4, 2) := by decide +kernel
theorem at_69_84 : mm_at 69 84 = some ((.ifCond .ne (15) : Instr), 87, 99, 0) := by decide +kernel
theorem at_69_87 : mm_at 69 87 = some ((.aload_n 0 : Instr), 88, 0, 0) := by decide +kernel
theorem at_69_88 : mm_at 69 88 = some ((.iload_n 2 : Instr), 89, 0, 0) := by decide +kernel
theorem at_69_89 : mm_at 69 89 = some ((.invokestatic 95 : Instr), 92, 67, 1) := by decide +kernel
theorem at_69_92 : mm_at 69 92 = some ((.bipush (20) : Instr), 94, 0, 0) := by decide +kernel
theorem at_69_94 : mm_at 69 94 = some ((.iload_n 1 : Instr), 95, 0, 0) := by decide +kernel
theorem at_69_95 : mm_at 69 95 = some ((.iadd : Instr), 96, 0, 0) := by decide +kernel
theorem at_69_96 : mm_at 69 96 = some ((.invokevirtual 88 : Instr), 99, 64, 3) := by decide +kernel
theorem at_69_99 : mm_at 69 99 = some ((.return_ : Instr), 100, 0, 0) := by decide +kernel
theorem at_70_0 : mm_at 70 0 = some ((.iload_n 1 : Instr), 1, 0, 0) := by decide +kernel
theorem at_70_1 : mm_at 70 1 = some ((.ifCond .lt (22) : Instr), 4, 23, 0) := by decide +kernel
theorem at_70_4 : mm_at 70 4 = some ((.iload_n 1 : Instr), 5, 0, 0) := by decide +kernel
theorem at_70_5 : mm_at 70 5 = some ((.bipush (8) : Instr), 7, 0, 0) := by decide +kernel
theorem at_70_7 : mm_at 70 7 = some ((.if_icmp .ge (16) : Instr), 10, 23, 0) := by decide +kernel
theorem at_70_10 : mm_at 70 10 = some ((.aload_n 0 : Instr), 11, 0, 0) := by decide +kernel
theorem at_70_11 : mm_at 70 11 = some ((.getfield 39 : Instr), 14, 4, 12) := by decide +kernel
theorem at_70_14 : mm_at 70 14 = some ((.iload_n 1 : Instr), 15, 0, 0) := by decide +kernel
theorem at_70_15 : mm_at 70 15 = some ((.baload : Instr), 16, 0, 0) := by decide +kernel
theorem at_70_16 : mm_at 70 16 = some ((.ifCond .eq (7) : Instr), 19, 23, 0) := by decide +kernel
theorem at_70_19 : mm_at 70 19 = some ((.iconst (1) : Instr), 20, 0, 0) := by decide +kernel
theorem at_70_20 : mm_at 70 20 = some ((.goto (4) : Instr), 23, 24, 0) := by decide +kernel
theorem at_70_23 : mm_at 70 23 = some ((.iconst (0) : Instr), 24, 0, 0) := by decide +kernel
theorem at_70_24 : mm_at 70 24 = some ((.ireturn : Instr), 25, 2, 0) := by decide +kernel
theorem at_71_0 : mm_at 71 0 = some ((.iconst (-1) : Instr), 1, 0, 0) := by decide +kernel
theorem at_71_1 : mm_at 71 1 = some ((.istore_n 2 : Instr), 2, 0, 0) := by decide +kernel
theorem at_71_2 : mm_at 71 2 = some ((.iconst (0) : Instr), 3, 0, 0) := by decide +kernel
theorem at_71_3 : mm_at 71 3 = some ((.istore_n 3 : Instr), 4, 0, 0) := by decide +kernel
theorem at_71_4 : mm_at 71 4 = some ((.iload_n 3 : Instr), 5, 0, 0) := by decide +kernel
theorem at_71_5 : mm_at 71 5 = some ((.bipush (120) : Instr), 7, 0, 0) := by decide +kernel
theorem at_71_7 : mm_at 71 7 = some ((.if_icmp .ge (28) : Instr), 10, 35, 0) := by decide +kernel
theorem at_71_10 : mm_at 71 10 = some ((.aload_n 0 : Instr), 11, 0, 0) := by decide +kernel
theorem at_71_11 : mm_at 71 11 = some ((.getfield 33 : Instr), 14, 4, 10) := by decide +kernel
theorem at_71_14 : mm_at 71 14 = some ((.iload_n 3 : Instr), 15, 0, 0) := by decide +kernel
theorem at_71_15 : mm_at 71 15 = some ((.iaload : Instr), 16, 0, 0) := by decide +kernel
theorem at_71_16 : mm_at 71 16 = some ((.bipush (20) : Instr), 18, 0, 0) := by decide +kernel
theorem at_71_18 : mm_at 71 18 = some ((.iload_n 1 : Instr), 19, 0, 0) := by decide +kernel
theorem at_71_19 : mm_at 71 19 = some ((.iadd : Instr), 20, 0, 0) := by decide +kernel
theorem at_71_20 : mm_at 71 20 = some ((.if_icmp .ne (7) : Instr), 23, 27, 0) := by decide +kernel
theorem at_71_23 : mm_at 71 23 = some ((.iload_n 3 : Instr), 24, 0, 0) := by decide +kernel
theorem at_71_24 : mm_at 71 24 = some ((.goto (4) : Instr), 27, 28, 0) := by decide +kernel
theorem at_71_27 : mm_at 71 27 = some ((.iload_n 2 : Instr), 28, 0, 0) := by decide +kernel
theorem at_71_28 : mm_at 71 28 = some ((.istore_n 2 : Instr), 29, 0, 0) := by decide +kernel
theorem at_71_29 : mm_at 71 29 = some ((.iinc 3 (1) : Instr), 32, 0, 0) := by decide +kernel
theorem at_71_32 : mm_at 71 32 = some ((.goto (-28) : Instr), 35, 4, 0) := by decide +kernel
theorem at_71_35 : mm_at 71 35 = some ((.iload_n 2 : Instr), 36, 0, 0) := by decide +kernel
theorem at_71_36 : mm_at 71 36 = some ((.ireturn : Instr), 37, 1, 0) := by decide +kernel
theorem at_72_0 : mm_at 72 0 = some ((.aload_n 0 : Instr), 1, 0, 0) := by decide +kernel
theorem at_72_1 : mm_at 72 1 = some ((.aload_n 0 : Instr), 2, 0, 0) := by decide +kernel
theorem at_72_2 : mm_at 72 2 = some ((.iload_n 1 : Instr), 3, 0, 0) := by decide +kernel
theorem at_72_3 : mm_at 72 3 = some ((.invokevirtual 98 : Instr), 6, 70, 2) := by decide +kernel
theorem at_72_6 : mm_at 72 6 = some ((.ifCond .eq (7) : Instr), 9, 13, 0) := by decide +kernel
theorem at_72_9 : mm_at 72 9 = some ((.iconst (0) : Instr), 10, 0, 0) := by decide +kernel
theorem at_72_10 : mm_at 72 10 = some ((.goto (4) : Instr), 13, 14, 0) := by decide +kernel
theorem at_72_13 : mm_at 72 13 = some ((.iconst (1) : Instr), 14, 0, 0) := by decide +kernel
theorem at_72_14 : mm_at 72 14 = some ((.putfield 54 : Instr), 17, 4, 2) := by decide +kernel
theorem at_72_17 : mm_at 72 17 = some ((.aload_n 0 : Instr), 18, 0, 0) := by decide +kernel
theorem at_72_18 : mm_at 72 18 = some ((.getfield 54 : Instr), 21, 4, 2) := by decide +kernel
theorem at_72_21 : mm_at 72 21 = some ((.ifCond .le (5) : Instr), 24, 26, 0) := by decide +kernel
theorem at_72_24 : mm_at 72 24 = some ((.iconst (0) : Instr), 25, 0, 0) := by decide +kernel
theorem at_72_25 : mm_at 72 25 = some ((.ireturn : Instr), 26, 1, 0) := by decide +kernel
theorem at_72_26 : mm_at 72 26 = some ((.aload_n 0 : Instr), 27, 0, 0) := by decide +kernel
theorem at_72_27 : mm_at 72 27 = some ((.iload_n 1 : Instr), 28, 0, 0) := by decide +kernel
theorem at_72_28 : mm_at 72 28 = some ((.invokevirtual 101 : Instr), 31, 71, 2) := by decide +kernel
theorem at_72_31 : mm_at 72 31 = some ((.istore_n 2 : Instr), 32, 0, 0) := by decide +kernel
theorem at_72_32 : mm_at 72 32 = some ((.aload_n 0 : Instr), 33, 0, 0) := by decide +kernel
theorem at_72_33 : mm_at 72 33 = some ((.iload_n 2 : Instr), 34, 0, 0) := by decide +kernel
theorem at_72_34 : mm_at 72 34 = some ((.ifCond .lt (12) : Instr), 37, 46, 0) := by decide +kernel
theorem at_72_37 : mm_at 72 37 = some ((.aload_n 0 : Instr), 38, 0, 0) := by decide +kernel
theorem at_72_38 : mm_at 72 38 = some ((.getfield 45 : Instr), 41, 4, 14) := by decide +kernel
theorem at_72_41 : mm_at 72 41 = some ((.iload_n 1 : Instr), 42, 0, 0) := by decide +kernel
theorem at_72_42 : mm_at 72 42 = some ((.iaload : Instr), 43, 0, 0) := by decide +kernel
theorem at_72_43 : mm_at 72 43 = some ((.ifCond .lt (7) : Instr), 46, 50, 0) := by decide +kernel
theorem at_72_46 : mm_at 72 46 = some ((.iconst (2) : Instr), 47, 0, 0) := by decide +kernel
theorem at_72_47 : mm_at 72 47 = some ((.goto (4) : Instr), 50, 51, 0) := by decide +kernel
theorem at_72_50 : mm_at 72 50 = some ((.iconst (0) : Instr), 51, 0, 0) := by decide +kernel
theorem at_72_51 : mm_at 72 51 = some ((.putfield 54 : Instr), 54, 4, 2) := by decide +kernel
theorem at_72_54 : mm_at 72 54 = some ((.aload_n 0 : Instr), 55, 0, 0) := by decide +kernel
theorem at_72_55 : mm_at 72 55 = some ((.getfield 54 : Instr), 58, 4, 2) := by decide +kernel
theorem at_72_58 : mm_at 72 58 = some ((.ifCond .le (5) : Instr), 61, 63, 0) := by decide +kernel
theorem at_72_61 : mm_at 72 61 = some ((.iconst (0) : Instr), 62, 0, 0) := by decide +kernel
theorem at_72_62 : mm_at 72 62 = some ((.ireturn : Instr), 63, 1, 0) := by decide +kernel
theorem at_72_63 : mm_at 72 63 = some ((.aload_n 0 : Instr), 64, 0, 0) := by decide +kernel
theorem at_72_64 : mm_at 72 64 = some ((.iload_n 2 : Instr), 65, 0, 0) := by decide +kernel
theorem at_72_65 : mm_at 72 65 = some ((.bipush (10) : Instr), 67, 0, 0) := by decide +kernel
theorem at_72_67 : mm_at 72 67 = some ((.aload_n 0 : Instr), 68, 0, 0) := by decide +kernel
theorem at_72_68 : mm_at 72 68 = some ((.getfield 42 : Instr), 71, 4, 13) := by decide +kernel
theorem at_72_71 : mm_at 72 71 = some ((.iload_n 1 : Instr), 72, 0, 0) := by decide +kernel
theorem at_72_72 : mm_at 72 72 = some ((.iaload : Instr), 73, 0, 0) := by decide +kernel
theorem at_72_73 : mm_at 72 73 = some ((.iadd : Instr), 74, 0, 0) := by decide +kernel
theorem at_72_74 : mm_at 72 74 = some ((.invokevirtual 88 : Instr), 77, 64, 3) := by decide +kernel
theorem at_72_77 : mm_at 72 77 = some ((.bipush (100) : Instr), 79, 0, 0) := by decide +kernel
theorem at_72_79 : mm_at 72 79 = some ((.iload_n 2 : Instr), 80, 0, 0) := by decide +kernel
theorem at_72_80 : mm_at 72 80 = some ((.bipush (8) : Instr), 82, 0, 0) := by decide +kernel
theorem at_72_82 : mm_at 72 82 = some ((.idiv : Instr), 83, 0, 0) := by decide +kernel
theorem at_72_83 : mm_at 72 83 = some ((.imul : Instr), 84, 0, 0) := by decide +kernel
theorem at_72_84 : mm_at 72 84 = some ((.iload_n 2 : Instr), 85, 0, 0) := by decide +kernel
theorem at_72_85 : mm_at 72 85 = some ((.bipush (8) : Instr), 87, 0, 0) := by decide +kernel
theorem at_72_87 : mm_at 72 87 = some ((.irem : Instr), 88, 0, 0) := by decide +kernel
theorem at_72_88 : mm_at 72 88 = some ((.iadd : Instr), 89, 0, 0) := by decide +kernel
theorem at_72_89 : mm_at 72 89 = some ((.ireturn : Instr), 90, 1, 0) := by decide +kernel
theorem at_73_0 : mm_at 73 0 = some ((.aload_n 0 : Instr), 1, 0, 0) := by decide +kernel
theorem at_73_1 : mm_at 73 1 = some ((.aload_n 0 : Instr), 2, 0, 0) := by decide +kernel
theorem at_73_2 : mm_at 73 2 = some ((.iload_n 1 : Instr), 3, 0, 0) := by decide +kernel
theorem at_73_3 : mm_at 73 3 = some ((.invokevirtual 98 : Instr), 6, 70, 2) := by decide +kernel
theorem at_73_6 : mm_at 73 6 = some ((.ifCond .ne (7) : Instr), 9, 13, 0) := by decide +kernel
theorem at_73_9 : mm_at 73 9 = some ((.iconst (1) : Instr), 10, 0, 0) := by decide +kernel
theorem at_73_10 : mm_at 73 10 = some ((.goto (17) : Instr), 13, 27, 0) := by decide +kernel
theorem at_73_13 : mm_at 73 13 = some ((.aload_n 0 : Instr), 14, 0, 0) := by decide +kernel
theorem at_73_14 : mm_at 73 14 = some ((.getfield 45 : Instr), 17, 4, 14) := by decide +kernel
theorem at_73_17 : mm_at 73 17 = some ((.iload_n 1 : Instr), 18, 0, 0) := by decide +kernel
theorem at_73_18 : mm_at 73 18 = some ((.iaload : Instr), 19, 0, 0) := by decide +kernel
theorem at_73_19 : mm_at 73 19 = some ((.ifCond .lt (7) : Instr), 22, 26, 0) := by decide +kernel
theorem at_73_22 : mm_at 73 22 = some ((.iconst (2) : Instr), 23, 0, 0) := by decide +kernel
theorem at_73_23 : mm_at 73 23 = some ((.goto (4) : Instr), 26, 27, 0) := by decide +kernel
theorem at_73_26 : mm_at 73 26 = some ((.iconst (0) : Instr), 27, 0, 0) := by decide +kernel
theorem at_73_27 : mm_at 73 27 = some ((.putfield 54 : Instr), 30, 4, 2) := by decide +kernel
theorem at_73_30 : mm_at 73 30 = some ((.aload_n 0 : Instr), 31, 0, 0) := by decide +kernel
theorem at_73_31 : mm_at 73 31 = some ((.getfield 54 : Instr), 34, 4, 2) := by decide +kernel
theorem at_73_34 : mm_at 73 34 = some ((.ifCond .le (5) : Instr), 37, 39, 0) := by decide +kernel
theorem at_73_37 : mm_at 73 37 = some ((.iconst (0) : Instr), 38, 0, 0) := by decide +kernel
theorem at_73_38 : mm_at 73 38 = some ((.ireturn : Instr), 39, 1, 0) := by decide +kernel
theorem at_73_39 : mm_at 73 39 = some ((.aload_n 0 : Instr), 40, 0, 0) := by decide +kernel
theorem at_73_40 : mm_at 73 40 = some ((.getfield 42 : Instr), 43, 4, 13) := by decide +kernel
theorem at_73_43 : mm_at 73 43 = some ((.iload_n 1 : Instr), 44, 0, 0) := by decide +kernel
theorem at_73_44 : mm_at 73 44 = some ((.iaload : Instr), 45, 0, 0) := by decide +kernel
theorem at_73_45 : mm_at 73 45 = some ((.istore_n 3 : Instr), 46, 0, 0) := by decide +kernel
theorem at_73_46 : mm_at 73 46 = some ((.iload_n 2 : Instr), 47, 0, 0) := by decide +kernel
theorem at_73_47 : mm_at 73 47 = some ((.ifCond .eq (9) : Instr), 50, 56, 0) := by decide +kernel
theorem at_73_50 : mm_at 73 50 = some ((.iload_n 3 : Instr), 51, 0, 0) := by decide +kernel
theorem at_73_51 : mm_at 73 51 = some ((.iconst (1) : Instr), 52, 0, 0) := by decide +kernel
theorem at_73_52 : mm_at 73 52 = some ((.iadd : Instr), 53, 0, 0) := by decide +kernel
theorem at_73_53 : mm_at 73 53 = some ((.goto (6) : Instr), 56, 59, 0) := by decide +kernel
theorem at_73_56 : mm_at 73 56 = some ((.iload_n 3 : Instr), 57, 0, 0) := by decide +kernel
theorem at_73_57 : mm_at 73 57 = some ((.iconst (1) : Instr), 58, 0, 0) := by decide +kernel
theorem at_73_58 : mm_at 73 58 = some ((.isub : Instr), 59, 0, 0) := by decide +kernel
theorem at_73_59 : mm_at 73 59 = some ((.istore 4 : Instr), 61, 0, 0) := by decide +kernel
theorem at_73_61 : mm_at 73 61 = some ((.aload_n 0 : Instr), 62, 0, 0) := by decide +kernel
theorem at_73_62 : mm_at 73 62 = some ((.aload_n 0 : Instr), 63, 0, 0) := by decide +kernel
theorem at_73_63 : mm_at 73 63 = some ((.iload 4 : Instr), 65, 0, 0) := by decide +kernel
theorem at_73_65 : mm_at 73 65 = some ((.invokevirtual 57 : Instr), 68, 54, 2) := by decide +kernel
theorem at_73_68 : mm_at 73 68 = some ((.ifCond .eq (7) : Instr), 71, 75, 0) := by decide +kernel
theorem at_73_71 : mm_at 73 71 = some ((.iconst (0) : Instr), 72, 0, 0) := by decide +kernel
theorem at_73_72 : mm_at 73 72 = some ((.goto (4) : Instr), 75, 76, 0) := by decide +kernel
theorem at_73_75 : mm_at 73 75 = some ((.iconst (3) : Instr), 76, 0, 0) := by decide +kernel
theorem at_73_76 : mm_at 73 76 = some ((.putfield 54 : Instr), 79, 4, 2) := by decide +kernel
theorem at_73_79 : mm_at 73 79 = some ((.aload_n 0 : Instr), 80, 0, 0) := by decide +kernel
theorem at_73_80 : mm_at 73 80 = some ((.getfield 54 : Instr), 83, 4, 2) := by decide +kernel
theorem at_73_83 : mm_at 73 83 = some ((.ifCond .le (5) : Instr), 86, 88, 0) := by decide +kernel
theorem at_73_86 : mm_at 73 86 = some ((.iconst (0) : Instr), 87, 0, 0) := by decide +kernel
theorem at_73_87 : mm_at 73 87 = some ((.ireturn : Instr), 88, 1, 0) := by decide +kernel
theorem at_73_88 : mm_at 73 88 = some ((.aload_n 0 : Instr), 89, 0, 0) := by decide +kernel
theorem at_73_89 : mm_at 73 89 = some ((.getfield 17 : Instr), 92, 4, 5) := by decide +kernel
theorem at_73_92 : mm_at 73 92 = some ((.iload 4 : Instr), 94, 0, 0) := by decide +kernel
theorem at_73_94 : mm_at 73 94 = some ((.baload : Instr), 95, 0, 0) := by decide +kernel
theorem at_73_95 : mm_at 73 95 = some ((.ifCond .eq (11) : Instr), 98, 106, 0) := by decide +kernel
theorem at_73_98 : mm_at 73 98 = some ((.bipush (10) : Instr), 100, 0, 0) := by decide +kernel
theorem at_73_100 : mm_at 73 100 = some ((.iload 4 : Instr), 102, 0, 0) := by decide +kernel
theorem at_73_102 : mm_at 73 102 = some ((.iadd : Instr), 103, 0, 0) := by decide +kernel
theorem at_73_103 : mm_at 73 103 = some ((.goto (13) : Instr), 106, 116, 0) := by decide +kernel
theorem at_73_106 : mm_at 73 106 = some ((.iload_n 2 : Instr), 107, 0, 0) := by decide +kernel
theorem at_73_107 : mm_at 73 107 = some ((.ifCond .eq (7) : Instr), 110, 114, 0) := by decide +kernel
theorem at_73_110 : mm_at 73 110 = some ((.iload_n 3 : Instr), 111, 0, 0) := by decide +kernel
theorem at_73_111 : mm_at 73 111 = some ((.goto (5) : Instr), 114, 116, 0) := by decide +kernel
theorem at_73_114 : mm_at 73 114 = some ((.iload 4 : Instr), 116, 0, 0) := by decide +kernel
theorem at_73_116 : mm_at 73 116 = some ((.istore 5 : Instr), 118, 0, 0) := by decide +kernel
theorem at_73_118 : mm_at 73 118 = some ((.aload_n 0 : Instr), 119, 0, 0) := by decide +kernel
theorem at_73_119 : mm_at 73 119 = some ((.iload_n 1 : Instr), 120, 0, 0) := by decide +kernel
theorem at_73_120 : mm_at 73 120 = some ((.invokevirtual 101 : Instr), 123, 71, 2) := by decide +kernel
theorem at_73_123 : mm_at 73 123 = some ((.istore 6 : Instr), 125, 0, 0) := by decide +kernel
theorem at_73_125 : mm_at 73 125 = some ((.aload_n 0 : Instr), 126, 0, 0) := by decide +kernel
theorem at_73_126 : mm_at 73 126 = some ((.iload 6 : Instr), 128, 0, 0) := by decide +kernel
theorem at_73_128 : mm_at 73 128 = some ((.ifCond .lt (13) : Instr), 131, 141, 0) := by decide +kernel
theorem at_73_131 : mm_at 73 131 = some ((.iload 6 : Instr), 133, 0, 0) := by decide +kernel
theorem at_73_133 : mm_at 73 133 = some ((.bipush (8) : Instr), 135, 0, 0) := by decide +kernel
theorem at_73_135 : mm_at 73 135 = some ((.idiv : Instr), 136, 0, 0) := by decide +kernel
theorem at_73_136 : mm_at 73 136 = some ((.iload 5 : Instr), 138, 0, 0) := by decide +kernel
theorem at_73_138 : mm_at 73 138 = some ((.if_icmp .eq (7) : Instr), 141, 145, 0) := by decide +kernel
theorem at_73_141 : mm_at 73 141 = some ((.iconst (4) : Instr), 142, 0, 0) := by decide +kernel
theorem at_73_142 : mm_at 73 142 = some ((.goto (4) : Instr), 145, 146, 0) := by decide +kernel
theorem at_73_145 : mm_at 73 145 = some ((.iconst (0) : Instr), 146, 0, 0) := by decide +kernel
theorem at_73_146 : mm_at 73 146 = some ((.putfield 54 : Instr), 149, 4, 2) := by decide +kernel
theorem at_73_149 : mm_at 73 149 = some ((.aload_n 0 : Instr), 150, 0, 0) := by decide +kernel
theorem at_73_150 : mm_at 73 150 = some ((.getfield 54 : Instr), 153, 4, 2) := by decide +kernel
theorem at_73_153 : mm_at 73 153 = some ((.ifCond .le (5) : Instr), 156, 158, 0) := by decide +kernel
theorem at_73_156 : mm_at 73 156 = some ((.iconst (0) : Instr), 157, 0, 0) := by decide +kernel
theorem at_73_157 : mm_at 73 157 = some ((.ireturn : Instr), 158, 1, 0) := by decide +kernel
theorem at_73_158 : mm_at 73 158 = some ((.aload_n 0 : Instr), 159, 0, 0) := by decide +kernel
theorem at_73_159 : mm_at 73 159 = some ((.getfield 45 : Instr), 162, 4, 14) := by decide +kernel
theorem at_73_162 : mm_at 73 162 = some ((.iload_n 1 : Instr), 163, 0, 0) := by decide +kernel
theorem at_73_163 : mm_at 73 163 = some ((.iload 5 : Instr), 165, 0, 0) := by decide +kernel
theorem at_73_165 : mm_at 73 165 = some ((.iastore : Instr), 166, 0, 0) := by decide +kernel
theorem at_73_166 : mm_at 73 166 = some ((.iload 5 : Instr), 168, 0, 0) := by decide +kernel
theorem at_73_168 : mm_at 73 168 = some ((.ireturn : Instr), 169, 1, 0) := by decide +kernel
theorem at_74_0 : mm_at 74 0 = some ((.aload_n 0 : Instr), 1, 0, 0) := by decide +kernel
theorem at_74_1 : mm_at 74 1 = some ((.aload_n 0 : Instr), 2, 0, 0) := by decide +kernel
theorem at_74_2 : mm_at 74 2 = some ((.iload_n 1 : Instr), 3, 0, 0) := by decide +kernel
theorem at_74_3 : mm_at 74 3 = some ((.invokevirtual 98 : Instr), 6, 70, 2) := by decide +kernel
theorem at_74_6 : mm_at 74 6 = some ((.ifCond .ne (7) : Instr), 9, 13, 0) := by decide +kernel
theorem at_74_9 : mm_at 74 9 = some ((.iconst (1) : Instr), 10, 0, 0) := by decide +kernel
theorem at_74_10 : mm_at 74 10 = some ((.goto (17) : Instr), 13, 27, 0) := by decide +kernel
theorem at_74_13 : mm_at 74 13 = some ((.aload_n 0 : Instr), 14, 0, 0) := by decide +kernel
theorem at_74_14 : mm_at 74 14 = some ((.getfield 45 : Instr), 17, 4, 14) := by decide +kernel
theorem at_74_17 : mm_at 74 17 = some ((.iload_n 1 : Instr), 18, 0, 0) := by decide +kernel
theorem at_74_18 : mm_at 74 18 = some ((.iaload : Instr), 19, 0, 0) := by decide +kernel
theorem at_74_19 : mm_at 74 19 = some ((.ifCond .ge (7) : Instr), 22, 26, 0) := by decide +kernel
theorem at_74_22 : mm_at 74 22 = some ((.iconst (2) : Instr), 23, 0, 0) := by decide +kernel
theorem at_74_23 : mm_at 74 23 = some ((.goto (4) : Instr), 26, 27, 0) := by decide +kernel
theorem at_74_26 : mm_at 74 26 = some ((.iconst (0) : Instr), 27, 0, 0) := by decide +kernel
theorem at_74_27 : mm_at 74 27 = some ((.putfield 54 : Instr), 30, 4, 2) := by decide +kernel
theorem at_74_30 : mm_at 74 30 = some ((.aload_n 0 : Instr), 31, 0, 0) := by decide +kernel
theorem at_74_31 : mm_at 74 31 = some ((.getfield 54 : Instr), 34, 4, 2) := by decide +kernel
theorem at_74_34 : mm_at 74 34 = some ((.ifCond .le (5) : Instr), 37, 39, 0) := by decide +kernel
theorem at_74_37 : mm_at 74 37 = some ((.iconst (0) : Instr), 38, 0, 0) := by decide +kernel
theorem at_74_38 : mm_at 74 38 = some ((.ireturn : Instr), 39, 1, 0) := by decide +kernel
theorem at_74_39 : mm_at 74 39 = some ((.aload_n 0 : Instr), 40, 0, 0) := by decide +kernel
theorem at_74_40 : mm_at 74 40 = some ((.getfield 45 : Instr), 43, 4, 14) := by decide +kernel
theorem at_74_43 : mm_at 74 43 = some ((.iload_n 1 : Instr), 44, 0, 0) := by decide +kernel
theorem at_74_44 : mm_at 74 44 = some ((.iaload : Instr), 45, 0, 0) := by decide +kernel
theorem at_74_45 : mm_at 74 45 = some ((.istore_n 2 : Instr), 46, 0, 0) := by decide +kernel
theorem at_74_46 : mm_at 74 46 = some ((.aload_n 0 : Instr), 47, 0, 0) := by decide +kernel
theorem at_74_47 : mm_at 74 47 = some ((.getfield 42 : Instr), 50, 4, 13) := by decide +kernel
theorem at_74_50 : mm_at 74 50 = some ((.iload_n 1 : Instr), 51, 0, 0) := by decide +kernel
theorem at_74_51 : mm_at 74 51 = some ((.aload_n 0 : Instr), 52, 0, 0) := by decide +kernel
theorem at_74_52 : mm_at 74 52 = some ((.getfield 42 : Instr), 55, 4, 13) := by decide +kernel
theorem at_74_55 : mm_at 74 55 = some ((.iload_n 1 : Instr), 56, 0, 0) := by decide +kernel
theorem at_74_56 : mm_at 74 56 = some ((.iaload : Instr), 57, 0, 0) := by decide +kernel
theorem at_74_57 : mm_at 74 57 = some ((.iload_n 2 : Instr), 58, 0, 0) := by decide +kernel
theorem at_74_58 : mm_at 74 58 = some ((.invokestatic 64 : Instr), 61, 56, 1) := by decide +kernel
theorem at_74_61 : mm_at 74 61 = some ((.if_icmp .ne (10) : Instr), 64, 71, 0) := by decide +kernel
theorem at_74_64 : mm_at 74 64 = some ((.iload_n 2 : Instr), 65, 0, 0) := by decide +kernel
theorem at_74_65 : mm_at 74 65 = some ((.invokestatic 68 : Instr), 68, 57, 1) := by decide +kernel
theorem at_74_68 : mm_at 74 68 = some ((.goto (7) : Instr), 71, 75, 0) := by decide +kernel
theorem at_74_71 : mm_at 74 71 = some ((.iload_n 2 : Instr), 72, 0, 0) := by decide +kernel
theorem at_74_72 : mm_at 74 72 = some ((.invokestatic 64 : Instr), 75, 56, 1) := by decide +kernel
theorem at_74_75 : mm_at 74 75 = some ((.iastore : Instr), 76, 0, 0) := by decide +kernel
theorem at_74_76 : mm_at 74 76 = some ((.aload_n 0 : Instr), 77, 0, 0) := by decide +kernel
theorem at_74_77 : mm_at 74 77 = some ((.getfield 45 : Instr), 80, 4, 14) := by decide +kernel
theorem at_74_80 : mm_at 74 80 = some ((.iload_n 1 : Instr), 81, 0, 0) := by decide +kernel
theorem at_74_81 : mm_at 74 81 = some ((.iconst (-1) : Instr), 82, 0, 0) := by decide +kernel
theorem at_74_82 : mm_at 74 82 = some ((.iastore : Instr), 83, 0, 0) := by decide +kernel
theorem at_74_83 : mm_at 74 83 = some ((.aload_n 0 : Instr), 84, 0, 0) := by decide +kernel
theorem at_74_84 : mm_at 74 84 = some ((.getfield 42 : Instr), 87, 4, 13) := by decide +kernel
theorem at_74_87 : mm_at 74 87 = some ((.iload_n 1 : Instr), 88, 0, 0) := by decide +kernel
theorem at_74_88 : mm_at 74 88 = some ((.iaload : Instr), 89, 0, 0) := by decide +kernel
theorem at_74_89 : mm_at 74 89 = some ((.ireturn : Instr), 90, 1, 0) := by decide +kernel
theorem at_75_0 : mm_at 75 0 = some ((.aload_n 0 : Instr), 1, 0, 0) := by decide +kernel
theorem at_75_1 : mm_at 75 1 = some ((.aload_n 0 : Instr), 2, 0, 0) := by decide +kernel
theorem at_75_2 : mm_at 75 2 = some ((.iload_n 1 : Instr), 3, 0, 0) := by decide +kernel
theorem at_75_3 : mm_at 75 3 = some ((.invokevirtual 57 : Instr), 6, 54, 2) := by decide +kernel
theorem at_75_6 : mm_at 75 6 = some ((.ifCond .eq (7) : Instr), 9, 13, 0) := by decide +kernel
theorem at_75_9 : mm_at 75 9 = some ((.iconst (0) : Instr), 10, 0, 0) := by decide +kernel
theorem at_75_10 : mm_at 75 10 = some ((.goto (4) : Instr), 13, 14, 0) := by decide +kernel
theorem at_75_13 : mm_at 75 13 = some ((.iconst (1) : Instr), 14, 0, 0) := by decide +kernel
theorem at_75_14 : mm_at 75 14 = some ((.putfield 54 : Instr), 17, 4, 2) := by decide +kernel
theorem at_75_17 : mm_at 75 17 = some ((.aload_n 0 : Instr), 18, 0, 0) := by decide +kernel
theorem at_75_18 : mm_at 75 18 = some ((.getfield 54 : Instr), 21, 4, 2) := by decide +kernel
theorem at_75_21 : mm_at 75 21 = some ((.ifCond .gt (21) : Instr), 24, 42, 0) := by decide +kernel
theorem at_75_24 : mm_at 75 24 = some ((.aload_n 0 : Instr), 25, 0, 0) := by decide +kernel
theorem at_75_25 : mm_at 75 25 = some ((.getfield 13 : Instr), 28, 4, 4) := by decide +kernel
theorem at_75_28 : mm_at 75 28 = some ((.iload_n 1 : Instr), 29, 0, 0) := by decide +kernel
theorem at_75_29 : mm_at 75 29 = some ((.baload : Instr), 30, 0, 0) := by decide +kernel
theorem at_75_30 : mm_at 75 30 = some ((.ifCond .eq (12) : Instr), 33, 42, 0) := by decide +kernel
theorem at_75_33 : mm_at 75 33 = some ((.aload_n 0 : Instr), 34, 0, 0) := by decide +kernel
theorem at_75_34 : mm_at 75 34 = some ((.getfield 17 : Instr), 37, 4, 5) := by decide +kernel
theorem at_75_37 : mm_at 75 37 = some ((.iload_n 1 : Instr), 38, 0, 0) := by decide +kernel
theorem at_75_38 : mm_at 75 38 = some ((.baload : Instr), 39, 0, 0) := by decide +kernel
theorem at_75_39 : mm_at 75 39 = some ((.ifCond .eq (16) : Instr), 42, 55, 0) := by decide +kernel
theorem at_75_42 : mm_at 75 42 = some ((.aload_n 0 : Instr), 43, 0, 0) := by decide +kernel
theorem at_75_43 : mm_at 75 43 = some ((.getfield 54 : Instr), 46, 4, 2) := by decide +kernel
theorem at_75_46 : mm_at 75 46 = some ((.ifCond .le (7) : Instr), 49, 53, 0) := by decide +kernel
theorem at_75_49 : mm_at 75 49 = some ((.iconst (0) : Instr), 50, 0, 0) := by decide +kernel
theorem at_75_50 : mm_at 75 50 = some ((.goto (4) : Instr), 53, 54, 0) := by decide +kernel
theorem at_75_53 : mm_at 75 53 = some ((.iconst (1) : Instr), 54, 0, 0) := by decide +kernel
theorem at_75_54 : mm_at 75 54 = some ((.ireturn : Instr), 55, 1, 0) := by decide +kernel
theorem at_75_55 : mm_at 75 55 = some ((.aload_n 0 : Instr), 56, 0, 0) := by decide +kernel
theorem at_75_56 : mm_at 75 56 = some ((.getfield 17 : Instr), 59, 4, 5) := by decide +kernel
theorem at_75_59 : mm_at 75 59 = some ((.iload_n 1 : Instr), 60, 0, 0) := by decide +kernel
theorem at_75_60 : mm_at 75 60 = some ((.iconst (1) : Instr), 61, 0, 0) := by decide +kernel
theorem at_75_61 : mm_at 75 61 = some ((.isub : Instr), 62, 0, 0) := by decide +kernel
theorem at_75_62 : mm_at 75 62 = some ((.baload : Instr), 63, 0, 0) := by decide +kernel
theorem at_75_63 : mm_at 75 63 = some ((.ifCond .ne (14) : Instr), 66, 77, 0) := by decide +kernel
theorem at_75_66 : mm_at 75 66 = some ((.aload_n 0 : Instr), 67, 0, 0) := by decide +kernel
theorem at_75_67 : mm_at 75 67 = some ((.getfield 17 : Instr), 70, 4, 5) := by decide +kernel
theorem at_75_70 : mm_at 75 70 = some ((.iload_n 1 : Instr), 71, 0, 0) := by decide +kernel
theorem at_75_71 : mm_at 75 71 = some ((.iconst (1) : Instr), 72, 0, 0) := by decide +kernel
theorem at_75_72 : mm_at 75 72 = some ((.iadd : Instr), 73, 0, 0) := by decide +kernel
theorem at_75_73 : mm_at 75 73 = some ((.baload : Instr), 74, 0, 0) := by decide +kernel
theorem at_75_74 : mm_at 75 74 = some ((.ifCond .eq (5) : Instr), 77, 79, 0) := by decide +kernel
theorem at_75_77 : mm_at 75 77 = some ((.iconst (2) : Instr), 78, 0, 0) := by decide +kernel
theorem at_75_78 : mm_at 75 78 = some ((.ireturn : Instr), 79, 1, 0) := by decide +kernel
theorem at_75_79 : mm_at 75 79 = some ((.aload_n 0 : Instr), 80, 0, 0) := by decide +kernel
theorem at_75_80 : mm_at 75 80 = some ((.getfield 26 : Instr), 83, 4, 8) := by decide +kernel
theorem at_75_83 : mm_at 75 83 = some ((.iconst (2) : Instr), 84, 0, 0) := by decide +kernel
theorem at_75_84 : mm_at 75 84 = some ((.iload_n 1 : Instr), 85, 0, 0) := by decide +kernel
theorem at_75_85 : mm_at 75 85 = some ((.imul : Instr), 86, 0, 0) := by decide +kernel
theorem at_75_86 : mm_at 75 86 = some ((.iconst (2) : Instr), 87, 0, 0) := by decide +kernel
theorem at_75_87 : mm_at 75 87 = some ((.isub : Instr), 88, 0, 0) := by decide +kernel
theorem at_75_88 : mm_at 75 88 = some ((.baload : Instr), 89, 0, 0) := by decide +kernel
theorem at_75_89 : mm_at 75 89 = some ((.ifCond .eq (16) : Instr), 92, 105, 0) := by decide +kernel
theorem at_75_92 : mm_at 75 92 = some ((.aload_n 0 : Instr), 93, 0, 0) := by decide +kernel
theorem at_75_93 : mm_at 75 93 = some ((.getfield 26 : Instr), 96, 4, 8) := by decide +kernel
theorem at_75_96 : mm_at 75 96 = some ((.iconst (2) : Instr), 97, 0, 0) := by decide +kernel
theorem at_75_97 : mm_at 75 97 = some ((.iload_n 1 : Instr), 98, 0, 0) := by decide +kernel
theorem at_75_98 : mm_at 75 98 = some ((.imul : Instr), 99, 0, 0) := by decide +kernel
theorem at_75_99 : mm_at 75 99 = some ((.iconst (1) : Instr), 100, 0, 0) := by decide +kernel
theorem at_75_100 : mm_at 75 100 = some ((.iadd : Instr), 101, 0, 0) := by decide +kernel
theorem at_75_101 : mm_at 75 101 = some ((.baload : Instr), 102, 0, 0) := by decide +kernel
theorem at_75_102 : mm_at 75 102 = some ((.ifCond .ne (5) : Instr), 105, 107, 0) := by decide +kernel
theorem at_75_105 : mm_at 75 105 = some ((.iconst (3) : Instr), 106, 0, 0) := by decide +kernel
theorem at_75_106 : mm_at 75 106 = some ((.ireturn : Instr), 107, 1, 0) := by decide +kernel
theorem at_75_107 : mm_at 75 107 = some ((.aload_n 0 : Instr), 108, 0, 0) := by decide +kernel
theorem at_75_108 : mm_at 75 108 = some ((.getfield 23 : Instr), 111, 4, 7) := by decide +kernel
theorem at_75_111 : mm_at 75 111 = some ((.iload_n 1 : Instr), 112, 0, 0) := by decide +kernel
theorem at_75_112 : mm_at 75 112 = some ((.iconst (1) : Instr), 113, 0, 0) := by decide +kernel
theorem at_75_113 : mm_at 75 113 = some ((.isub : Instr), 114, 0, 0) := by decide +kernel
theorem at_75_114 : mm_at 75 114 = some ((.baload : Instr), 115, 0, 0) := by decide +kernel
theorem at_75_115 : mm_at 75 115 = some ((.ifCond .ne (24) : Instr), 118, 139, 0) := by decide +kernel
theorem at_75_118 : mm_at 75 118 = some ((.aload_n 0 : Instr), 119, 0, 0) := by decide +kernel
theorem at_75_119 : mm_at 75 119 = some ((.getfield 23 : Instr), 122, 4, 7) := by decide +kernel
theorem at_75_122 : mm_at 75 122 = some ((.iload_n 1 : Instr), 123, 0, 0) := by decide +kernel
theorem at_75_123 : mm_at 75 123 = some ((.baload : Instr), 124, 0, 0) := by decide +kernel
theorem at_75_124 : mm_at 75 124 = some ((.ifCond .ne (15) : Instr), 127, 139, 0) := by decide +kernel
theorem at_75_127 : mm_at 75 127 = some ((.aload_n 0 : Instr), 128, 0, 0) := by decide +kernel
theorem at_75_128 : mm_at 75 128 = some ((.getfield 23 : Instr), 131, 4, 7) := by decide +kernel
theorem at_75_131 : mm_at 75 131 = some ((.bipush (10) : Instr), 133, 0, 0) := by decide +kernel
theorem at_75_133 : mm_at 75 133 = some ((.iload_n 1 : Instr), 134, 0, 0) := by decide +kernel
theorem at_75_134 : mm_at 75 134 = some ((.iadd : Instr), 135, 0, 0) := by decide +kernel
theorem at_75_135 : mm_at 75 135 = some ((.baload : Instr), 136, 0, 0) := by decide +kernel
theorem at_75_136 : mm_at 75 136 = some ((.ifCond .eq (7) : Instr), 139, 143, 0) := by decide +kernel
theorem at_75_139 : mm_at 75 139 = some ((.iconst (4) : Instr), 140, 0, 0) := by decide +kernel
theorem at_75_140 : mm_at 75 140 = some ((.goto (26) : Instr), 143, 166, 0) := by decide +kernel
theorem at_75_143 : mm_at 75 143 = some ((.aload_n 0 : Instr), 144, 0, 0) := by decide +kernel
theorem at_75_144 : mm_at 75 144 = some ((.iload_n 1 : Instr), 145, 0, 0) := by decide +kernel
theorem at_75_145 : mm_at 75 145 = some ((.iconst (1) : Instr), 146, 0, 0) := by decide +kernel
theorem at_75_146 : mm_at 75 146 = some ((.isub : Instr), 147, 0, 0) := by decide +kernel
theorem at_75_147 : mm_at 75 147 = some ((.invokevirtual 82 : Instr), 150, 62, 2) := by decide +kernel
theorem at_75_150 : mm_at 75 150 = some ((.ifCond .eq (15) : Instr), 153, 165, 0) := by decide +kernel
theorem at_75_153 : mm_at 75 153 = some ((.aload_n 0 : Instr), 154, 0, 0) := by decide +kernel
theorem at_75_154 : mm_at 75 154 = some ((.iload_n 1 : Instr), 155, 0, 0) := by decide +kernel
theorem at_75_155 : mm_at 75 155 = some ((.invokevirtual 82 : Instr), 158, 62, 2) := by decide +kernel
theorem at_75_158 : mm_at 75 158 = some ((.ifCond .eq (7) : Instr), 161, 165, 0) := by decide +kernel
theorem at_75_161 : mm_at 75 161 = some ((.iconst (0) : Instr), 162, 0, 0) := by decide +kernel
theorem at_75_162 : mm_at 75 162 = some ((.goto (4) : Instr), 165, 166, 0) := by decide +kernel
theorem at_75_165 : mm_at 75 165 = some ((.iconst (5) : Instr), 166, 0, 0) := by decide +kernel
theorem at_75_166 : mm_at 75 166 = some ((.istore_n 2 : Instr), 167, 0, 0) := by decide +kernel
theorem at_75_167 : mm_at 75 167 = some ((.aload_n 0 : Instr), 168, 0, 0) := by decide +kernel
theorem at_75_168 : mm_at 75 168 = some ((.getfield 17 : Instr), 171, 4, 5) := by decide +kernel
theorem at_75_171 : mm_at 75 171 = some ((.iload_n 1 : Instr), 172, 0, 0) := by decide +kernel
theorem at_75_172 : mm_at 75 172 = some ((.iload_n 2 : Instr), 173, 0, 0) := by decide +kernel
theorem at_75_173 : mm_at 75 173 = some ((.ifCond .ne (7) : Instr), 176, 180, 0) := by decide +kernel
theorem at_75_176 : mm_at 75 176 = some ((.iconst (1) : Instr), 177, 0, 0) := by decide +kernel
theorem at_75_177 : mm_at 75 177 = some ((.goto (4) : Instr), 180, 181, 0) := by decide +kernel
theorem at_75_180 : mm_at 75 180 = some ((.iconst (0) : Instr), 181, 0, 0) := by decide +kernel
theorem at_75_181 : mm_at 75 181 = some ((.bastore : Instr), 182, 0, 0) := by decide +kernel
theorem at_75_182 : mm_at 75 182 = some ((.iload_n 2 : Instr), 183, 0, 0) := by decide +kernel
theorem at_75_183 : mm_at 75 183 = some ((.ireturn : Instr), 184, 1, 0) := by decide +kernel
theorem at_76_0 : mm_at 76 0 = some ((.aload_n 0 : Instr), 1, 0, 0) := by decide +kernel
theorem at_76_1 : mm_at 76 1 = some ((.aload_n 0 : Instr), 2, 0, 0) := by decide +kernel
theorem at_76_2 : mm_at 76 2 = some ((.iload_n 1 : Instr), 3, 0, 0) := by decide +kernel
theorem at_76_3 : mm_at 76 3 = some ((.invokevirtual 57 : Instr), 6, 54, 2) := by decide +kernel
theorem at_76_6 : mm_at 76 6 = some ((.ifCond .eq (7) : Instr), 9, 13, 0) := by decide +kernel
theorem at_76_9 : mm_at 76 9 = some ((.iconst (0) : Instr), 10, 0, 0) := by decide +kernel
theorem at_76_10 : mm_at 76 10 = some ((.goto (4) : Instr), 13, 14, 0) := by decide +kernel
theorem at_76_13 : mm_at 76 13 = some ((.iconst (1) : Instr), 14, 0, 0) := by decide +kernel
theorem at_76_14 : mm_at 76 14 = some ((.putfield 54 : Instr), 17, 4, 2) := by decide +kernel
theorem at_76_17 : mm_at 76 17 = some ((.aload_n 0 : Instr), 18, 0, 0) := by decide +kernel
theorem at_76_18 : mm_at 76 18 = some ((.getfield 54 : Instr), 21, 4, 2) := by decide +kernel
theorem at_76_21 : mm_at 76 21 = some ((.ifCond .gt (12) : Instr), 24, 33, 0) := by decide +kernel
theorem at_76_24 : mm_at 76 24 = some ((.aload_n 0 : Instr), 25, 0, 0) := by decide +kernel
theorem at_76_25 : mm_at 76 25 = some ((.getfield 17 : Instr), 28, 4, 5) := by decide +kernel
theorem at_76_28 : mm_at 76 28 = some ((.iload_n 1 : Instr), 29, 0, 0) := by decide +kernel
theorem at_76_29 : mm_at 76 29 = some ((.baload : Instr), 30, 0, 0) := by decide +kernel
theorem at_76_30 : mm_at 76 30 = some ((.ifCond .ne (16) : Instr), 33, 46, 0) := by decide +kernel
theorem at_76_33 : mm_at 76 33 = some ((.aload_n 0 : Instr), 34, 0, 0) := by decide +kernel
theorem at_76_34 : mm_at 76 34 = some ((.getfield 54 : Instr), 37, 4, 2) := by decide +kernel
theorem at_76_37 : mm_at 76 37 = some ((.ifCond .le (7) : Instr), 40, 44, 0) := by decide +kernel
theorem at_76_40 : mm_at 76 40 = some ((.iconst (0) : Instr), 41, 0, 0) := by decide +kernel
theorem at_76_41 : mm_at 76 41 = some ((.goto (4) : Instr), 44, 45, 0) := by decide +kernel
theorem at_76_44 : mm_at 76 44 = some ((.iconst (1) : Instr), 45, 0, 0) := by decide +kernel
theorem at_76_45 : mm_at 76 45 = some ((.ireturn : Instr), 46, 1, 0) := by decide +kernel
theorem at_76_46 : mm_at 76 46 = some ((.aload_n 0 : Instr), 47, 0, 0) := by decide +kernel
theorem at_76_47 : mm_at 76 47 = some ((.getfield 26 : Instr), 50, 4, 8) := by decide +kernel
theorem at_76_50 : mm_at 76 50 = some ((.iconst (2) : Instr), 51, 0, 0) := by decide +kernel
theorem at_76_51 : mm_at 76 51 = some ((.bipush (10) : Instr), 53, 0, 0) := by decide +kernel
theorem at_76_53 : mm_at 76 53 = some ((.iload_n 1 : Instr), 54, 0, 0) := by decide +kernel
theorem at_76_54 : mm_at 76 54 = some ((.iadd : Instr), 55, 0, 0) := by decide +kernel
theorem at_76_55 : mm_at 76 55 = some ((.imul : Instr), 56, 0, 0) := by decide +kernel
theorem at_76_56 : mm_at 76 56 = some ((.baload : Instr), 57, 0, 0) := by decide +kernel
theorem at_76_57 : mm_at 76 57 = some ((.ifCond .eq (23) : Instr), 60, 80, 0) := by decide +kernel
theorem at_76_60 : mm_at 76 60 = some ((.aload_n 0 : Instr), 61, 0, 0) := by decide +kernel
theorem at_76_61 : mm_at 76 61 = some ((.getfield 26 : Instr), 64, 4, 8) := by decide +kernel
theorem at_76_64 : mm_at 76 64 = some ((.iconst (2) : Instr), 65, 0, 0) := by decide +kernel
theorem at_76_65 : mm_at 76 65 = some ((.bipush (10) : Instr), 67, 0, 0) := by decide +kernel
theorem at_76_67 : mm_at 76 67 = some ((.iload_n 1 : Instr), 68, 0, 0) := by decide +kernel
theorem at_76_68 : mm_at 76 68 = some ((.iadd : Instr), 69, 0, 0) := by decide +kernel
theorem at_76_69 : mm_at 76 69 = some ((.imul : Instr), 70, 0, 0) := by decide +kernel
theorem at_76_70 : mm_at 76 70 = some ((.iconst (1) : Instr), 71, 0, 0) := by decide +kernel
theorem at_76_71 : mm_at 76 71 = some ((.iadd : Instr), 72, 0, 0) := by decide +kernel
theorem at_76_72 : mm_at 76 72 = some ((.baload : Instr), 73, 0, 0) := by decide +kernel
theorem at_76_73 : mm_at 76 73 = some ((.ifCond .eq (7) : Instr), 76, 80, 0) := by decide +kernel
theorem at_76_76 : mm_at 76 76 = some ((.iconst (1) : Instr), 77, 0, 0) := by decide +kernel
theorem at_76_77 : mm_at 76 77 = some ((.goto (4) : Instr), 80, 81, 0) := by decide +kernel
theorem at_76_80 : mm_at 76 80 = some ((.iconst (0) : Instr), 81, 0, 0) := by decide +kernel
theorem at_76_81 : mm_at 76 81 = some ((.istore_n 2 : Instr), 82, 0, 0) := by decide +kernel
theorem at_76_82 : mm_at 76 82 = some ((.iload_n 2 : Instr), 83, 0, 0) := by decide +kernel
theorem at_76_83 : mm_at 76 83 = some ((.ifCond .ne (7) : Instr), 86, 90, 0) := by decide +kernel
theorem at_76_86 : mm_at 76 86 = some ((.iconst (3) : Instr), 87, 0, 0) := by decide +kernel
theorem at_76_87 : mm_at 76 87 = some ((.goto (55) : Instr), 90, 142, 0) := by decide +kernel
theorem at_76_90 : mm_at 76 90 = some ((.aload_n 0 : Instr), 91, 0, 0) := by decide +kernel
theorem at_76_91 : mm_at 76 91 = some ((.getfield 23 : Instr), 94, 4, 7) := by decide +kernel
theorem at_76_94 : mm_at 76 94 = some ((.iload_n 1 : Instr), 95, 0, 0) := by decide +kernel
theorem at_76_95 : mm_at 76 95 = some ((.iconst (1) : Instr), 96, 0, 0) := by decide +kernel
theorem at_76_96 : mm_at 76 96 = some ((.isub : Instr), 97, 0, 0) := by decide +kernel
theorem at_76_97 : mm_at 76 97 = some ((.baload : Instr), 98, 0, 0) := by decide +kernel
theorem at_76_98 : mm_at 76 98 = some ((.ifCond .ne (24) : Instr), 101, 122, 0) := by decide +kernel
theorem at_76_101 : mm_at 76 101 = some ((.aload_n 0 : Instr), 102, 0, 0) := by decide +kernel
theorem at_76_102 : mm_at 76 102 = some ((.getfield 23 : Instr), 105, 4, 7) := by decide +kernel
theorem at_76_105 : mm_at 76 105 = some ((.iload_n 1 : Instr), 106, 0, 0) := by decide +kernel
theorem at_76_106 : mm_at 76 106 = some ((.baload : Instr), 107, 0, 0) := by decide +kernel
theorem at_76_107 : mm_at 76 107 = some ((.ifCond .ne (15) : Instr), 110, 122, 0) := by decide +kernel
theorem at_76_110 : mm_at 76 110 = some ((.aload_n 0 : Instr), 111, 0, 0) := by decide +kernel
theorem at_76_111 : mm_at 76 111 = some ((.getfield 23 : Instr), 114, 4, 7) := by decide +kernel
theorem at_76_114 : mm_at 76 114 = some ((.bipush (10) : Instr), 116, 0, 0) := by decide +kernel
theorem at_76_116 : mm_at 76 116 = some ((.iload_n 1 : Instr), 117, 0, 0) := by decide +kernel
theorem at_76_117 : mm_at 76 117 = some ((.iadd : Instr), 118, 0, 0) := by decide +kernel
theorem at_76_118 : mm_at 76 118 = some ((.baload : Instr), 119, 0, 0) := by decide +kernel
theorem at_76_119 : mm_at 76 119 = some ((.ifCond .eq (7) : Instr), 122, 126, 0) := by decide +kernel
theorem at_76_122 : mm_at 76 122 = some ((.iconst (4) : Instr), 123, 0, 0) := by decide +kernel
theorem at_76_123 : mm_at 76 123 = some ((.goto (19) : Instr), 126, 142, 0) := by decide +kernel
theorem at_76_126 : mm_at 76 126 = some ((.aload_n 0 : Instr), 127, 0, 0) := by decide +kernel
theorem at_76_127 : mm_at 76 127 = some ((.bipush (10) : Instr), 129, 0, 0) := by decide +kernel
theorem at_76_129 : mm_at 76 129 = some ((.iload_n 1 : Instr), 130, 0, 0) := by decide +kernel
theorem at_76_130 : mm_at 76 130 = some ((.iadd : Instr), 131, 0, 0) := by decide +kernel
theorem at_76_131 : mm_at 76 131 = some ((.invokevirtual 82 : Instr), 134, 62, 2) := by decide +kernel
theorem at_76_134 : mm_at 76 134 = some ((.ifCond .eq (7) : Instr), 137, 141, 0) := by decide +kernel
theorem at_76_137 : mm_at 76 137 = some ((.iconst (0) : Instr), 138, 0, 0) := by decide +kernel
theorem at_76_138 : mm_at 76 138 = some ((.goto (4) : Instr), 141, 142, 0) := by decide +kernel
theorem at_76_141 : mm_at 76 141 = some ((.iconst (5) : Instr), 142, 0, 0) := by decide +kernel
theorem at_76_142 : mm_at 76 142 = some ((.istore_n 3 : Instr), 143, 0, 0) := by decide +kernel
theorem at_76_143 : mm_at 76 143 = some ((.aload_n 0 : Instr), 144, 0, 0) := by decide +kernel
theorem at_76_144 : mm_at 76 144 = some ((.getfield 17 : Instr), 147, 4, 5) := by decide +kernel
theorem at_76_147 : mm_at 76 147 = some ((.iload_n 1 : Instr), 148, 0, 0) := by decide +kernel
theorem at_76_148 : mm_at 76 148 = some ((.iload_n 3 : Instr), 149, 0, 0) := by decide +kernel
theorem at_76_149 : mm_at 76 149 = some ((.ifCond .eq (7) : Instr), 152, 156, 0) := by decide +kernel
theorem at_76_152 : mm_at 76 152 = some ((.iconst (1) : Instr), 153, 0, 0) := by decide +kernel
theorem at_76_153 : mm_at 76 153 = some ((.goto (4) : Instr), 156, 157, 0) := by decide +kernel
theorem at_76_156 : mm_at 76 156 = some ((.iconst (0) : Instr), 157, 0, 0) := by decide +kernel
theorem at_76_157 : mm_at 76 157 = some ((.bastore : Instr), 158, 0, 0) := by decide +kernel
theorem at_76_158 : mm_at 76 158 = some ((.iload_n 3 : Instr), 159, 0, 0) := by decide +kernel
theorem at_76_159 : mm_at 76 159 = some ((.ireturn : Instr), 160, 1, 0) := by decide +kernel
theorem at_77_0 : mm_at 77 0 = some ((.aload_n 0 : Instr), 1, 0, 0) := by decide +kernel
theorem at_77_1 : mm_at 77 1 = some ((.aload_n 0 : Instr), 2, 0, 0) := by decide +kernel
theorem at_77_2 : mm_at 77 2 = some ((.iload_n 2 : Instr), 3, 0, 0) := by decide +kernel
theorem at_77_3 : mm_at 77 3 = some ((.iload_n 1 : Instr), 4, 0, 0) := by decide +kernel
theorem at_77_4 : mm_at 77 4 = some ((.invokevirtual 71 : Instr), 7, 53, 3) := by decide +kernel
theorem at_77_7 : mm_at 77 7 = some ((.ifCond .eq (14) : Instr), 10, 21, 0) := by decide +kernel
theorem at_77_10 : mm_at 77 10 = some ((.iload_n 3 : Instr), 11, 0, 0) := by decide +kernel
theorem at_77_11 : mm_at 77 11 = some ((.iconst (2) : Instr), 12, 0, 0) := by decide +kernel
theorem at_77_12 : mm_at 77 12 = some ((.if_icmp .lt (9) : Instr), 15, 21, 0) := by decide +kernel
theorem at_77_15 : mm_at 77 15 = some ((.iload_n 3 : Instr), 16, 0, 0) := by decide +kernel
theorem at_77_16 : mm_at 77 16 = some ((.iconst (2) : Instr), 17, 0, 0) := by decide +kernel
theorem at_77_17 : mm_at 77 17 = some ((.irem : Instr), 18, 0, 0) := by decide +kernel
theorem at_77_18 : mm_at 77 18 = some ((.ifCond .eq (7) : Instr), 21, 25, 0) := by decide +kernel
theorem at_77_21 : mm_at 77 21 = some ((.iconst (1) : Instr), 22, 0, 0) := by decide +kernel
theorem at_77_22 : mm_at 77 22 = some ((.goto (4) : Instr), 25, 26, 0) := by decide +kernel
theorem at_77_25 : mm_at 77 25 = some ((.iconst (0) : Instr), 26, 0, 0) := by decide +kernel
theorem at_77_26 : mm_at 77 26 = some ((.putfield 54 : Instr), 29, 4, 2) := by decide +kernel
theorem at_77_29 : mm_at 77 29 = some ((.aload_n 0 : Instr), 30, 0, 0) := by decide +kernel
theorem at_77_30 : mm_at 77 30 = some ((.getfield 54 : Instr), 33, 4, 2) := by decide +kernel
theorem at_77_33 : mm_at 77 33 = some ((.ifCond .le (4) : Instr), 36, 37, 0) := by decide +kernel
theorem at_77_36 : mm_at 77 36 = some ((.return_ : Instr), 37, 0, 0) := by decide +kernel
theorem at_77_37 : mm_at 77 37 = some ((.iload_n 2 : Instr), 38, 0, 0) := by decide +kernel
theorem at_77_38 : mm_at 77 38 = some ((.iload_n 1 : Instr), 39, 0, 0) := by decide +kernel
theorem at_77_39 : mm_at 77 39 = some ((.invokestatic 75 : Instr), 42, 58, 2) := by decide +kernel
theorem at_77_42 : mm_at 77 42 = some ((.istore 4 : Instr), 44, 0, 0) := by decide +kernel
theorem at_77_44 : mm_at 77 44 = some ((.aload_n 0 : Instr), 45, 0, 0) := by decide +kernel
theorem at_77_45 : mm_at 77 45 = some ((.aload_n 0 : Instr), 46, 0, 0) := by decide +kernel
theorem at_77_46 : mm_at 77 46 = some ((.iload_n 1 : Instr), 47, 0, 0) := by decide +kernel
theorem at_77_47 : mm_at 77 47 = some ((.invokevirtual 82 : Instr), 50, 62, 2) := by decide +kernel
theorem at_77_50 : mm_at 77 50 = some ((.ifCond .ne (7) : Instr), 53, 57, 0) := by decide +kernel
theorem at_77_53 : mm_at 77 53 = some ((.iconst (2) : Instr), 54, 0, 0) := by decide +kernel
theorem at_77_54 : mm_at 77 54 = some ((.goto (19) : Instr), 57, 73, 0) := by decide +kernel
theorem at_77_57 : mm_at 77 57 = some ((.aload_n 0 : Instr), 58, 0, 0) := by decide +kernel
theorem at_77_58 : mm_at 77 58 = some ((.iload_n 1 : Instr), 59, 0, 0) := by decide +kernel
theorem at_77_59 : mm_at 77 59 = some ((.iload 4 : Instr), 61, 0, 0) := by decide +kernel
theorem at_77_61 : mm_at 77 61 = some ((.invokevirtual 104 : Instr), 64, 78, 3) := by decide +kernel
theorem at_77_64 : mm_at 77 64 = some ((.iload_n 3 : Instr), 65, 0, 0) := by decide +kernel
theorem at_77_65 : mm_at 77 65 = some ((.if_icmp .ge (7) : Instr), 68, 72, 0) := by decide +kernel
theorem at_77_68 : mm_at 77 68 = some ((.iconst (3) : Instr), 69, 0, 0) := by decide +kernel
theorem at_77_69 : mm_at 77 69 = some ((.goto (4) : Instr), 72, 73, 0) := by decide +kernel
theorem at_77_72 : mm_at 77 72 = some ((.iconst (0) : Instr), 73, 0, 0) := by decide +kernel
theorem at_77_73 : mm_at 77 73 = some ((.putfield 54 : Instr), 76, 4, 2) := by decide +kernel
theorem at_77_76 : mm_at 77 76 = some ((.iconst (0) : Instr), 77, 0, 0) := by decide +kernel
theorem at_77_77 : mm_at 77 77 = some ((.istore 5 : Instr), 79, 0, 0) := by decide +kernel
theorem at_77_79 : mm_at 77 79 = some ((.iload 5 : Instr), 81, 0, 0) := by decide +kernel
theorem at_77_81 : mm_at 77 81 = some ((.iload_n 3 : Instr), 82, 0, 0) := by decide +kernel
theorem at_77_82 : mm_at 77 82 = some ((.if_icmp .ge (31) : Instr), 85, 113, 0) := by decide +kernel
theorem at_77_85 : mm_at 77 85 = some ((.aload_n 0 : Instr), 86, 0, 0) := by decide +kernel
theorem at_77_86 : mm_at 77 86 = some ((.getfield 54 : Instr), 89, 4, 2) := by decide +kernel
theorem at_77_89 : mm_at 77 89 = some ((.ifCond .ne (24) : Instr), 92, 113, 0) := by decide +kernel
theorem at_77_92 : mm_at 77 92 = some ((.aload_n 0 : Instr), 93, 0, 0) := by decide +kernel
theorem at_77_93 : mm_at 77 93 = some ((.aload_n 0 : Instr), 94, 0, 0) := by decide +kernel
theorem at_77_94 : mm_at 77 94 = some ((.iload_n 1 : Instr), 95, 0, 0) := by decide +kernel
theorem at_77_95 : mm_at 77 95 = some ((.iload 4 : Instr), 97, 0, 0) := by decide +kernel
theorem at_77_97 : mm_at 77 97 = some ((.invokevirtual 79 : Instr), 100, 61, 3) := by decide +kernel
theorem at_77_100 : mm_at 77 100 = some ((.iconst (1) : Instr), 101, 0, 0) := by decide +kernel
theorem at_77_101 : mm_at 77 101 = some ((.iload 4 : Instr), 103, 0, 0) := by decide +kernel
theorem at_77_103 : mm_at 77 103 = some ((.isub : Instr), 104, 0, 0) := by decide +kernel
theorem at_77_104 : mm_at 77 104 = some ((.invokevirtual 88 : Instr), 107, 64, 3) := by decide +kernel
theorem at_77_107 : mm_at 77 107 = some ((.iinc 5 (1) : Instr), 110, 0, 0) := by decide +kernel
theorem at_77_110 : mm_at 77 110 = some ((.goto (-31) : Instr), 113, 79, 0) := by decide +kernel
theorem at_77_113 : mm_at 77 113 = some ((.return_ : Instr), 114, 0, 0) := by decide +kernel
theorem at_78_0 : mm_at 78 0 = some ((.iconst (0) : Instr), 1, 0, 0) := by decide +kernel
theorem at_78_1 : mm_at 78 1 = some ((.istore_n 3 : Instr), 2, 0, 0) := by decide +kernel
theorem at_78_2 : mm_at 78 2 = some ((.bipush (8) : Instr), 4, 0, 0) := by decide +kernel
theorem at_78_4 : mm_at 78 4 = some ((.iload_n 1 : Instr), 5, 0, 0) := by decide +kernel
theorem at_78_5 : mm_at 78 5 = some ((.imul : Instr), 6, 0, 0) := by decide +kernel
theorem at_78_6 : mm_at 78 6 = some ((.istore 4 : Instr), 8, 0, 0) := by decide +kernel
theorem at_78_8 : mm_at 78 8 = some ((.iload 4 : Instr), 10, 0, 0) := by decide +kernel
theorem at_78_10 : mm_at 78 10 = some ((.bipush (8) : Instr), 12, 0, 0) := by decide +kernel
theorem at_78_12 : mm_at 78 12 = some ((.iload_n 1 : Instr), 13, 0, 0) := by decide +kernel
theorem at_78_13 : mm_at 78 13 = some ((.imul : Instr), 14, 0, 0) := by decide +kernel
theorem at_78_14 : mm_at 78 14 = some ((.aload_n 0 : Instr), 15, 0, 0) := by decide +kernel
theorem at_78_15 : mm_at 78 15 = some ((.getfield 51 : Instr), 18, 4, 1) := by decide +kernel
theorem at_78_18 : mm_at 78 18 = some ((.iadd : Instr), 19, 0, 0) := by decide +kernel
theorem at_78_19 : mm_at 78 19 = some ((.if_icmp .ge (28) : Instr), 22, 47, 0) := by decide +kernel
theorem at_78_22 : mm_at 78 22 = some ((.iload_n 3 : Instr), 23, 0, 0) := by decide +kernel
theorem at_78_23 : mm_at 78 23 = some ((.aload_n 0 : Instr), 24, 0, 0) := by decide +kernel
theorem at_78_24 : mm_at 78 24 = some ((.getfield 33 : Instr), 27, 4, 10) := by decide +kernel
theorem at_78_27 : mm_at 78 27 = some ((.iload 4 : Instr), 29, 0, 0) := by decide +kernel
theorem at_78_29 : mm_at 78 29 = some ((.iaload : Instr), 30, 0, 0) := by decide +kernel
theorem at_78_30 : mm_at 78 30 = some ((.iload_n 2 : Instr), 31, 0, 0) := by decide +kernel
theorem at_78_31 : mm_at 78 31 = some ((.if_icmp .ne (7) : Instr), 34, 38, 0) := by decide +kernel
theorem at_78_34 : mm_at 78 34 = some ((.iconst (1) : Instr), 35, 0, 0) := by decide +kernel
theorem at_78_35 : mm_at 78 35 = some ((.goto (4) : Instr), 38, 39, 0) := by decide +kernel
theorem at_78_38 : mm_at 78 38 = some ((.iconst (0) : Instr), 39, 0, 0) := by decide +kernel
theorem at_78_39 : mm_at 78 39 = some ((.iadd : Instr), 40, 0, 0) := by decide +kernel
theorem at_78_40 : mm_at 78 40 = some ((.istore_n 3 : Instr), 41, 0, 0) := by decide +kernel
theorem at_78_41 : mm_at 78 41 = some ((.iinc 4 (1) : Instr), 44, 0, 0) := by decide +kernel
theorem at_78_44 : mm_at 78 44 = some ((.goto (-36) : Instr), 47, 8, 0) := by decide +kernel
theorem at_78_47 : mm_at 78 47 = some ((.iload_n 3 : Instr), 48, 0, 0) := by decide +kernel
theorem at_78_48 : mm_at 78 48 = some ((.ireturn : Instr), 49, 1, 0) := by decide +kernel
theorem at_79_0 : mm_at 79 0 = some ((.aload_n 0 : Instr), 1, 0, 0) := by decide +kernel
theorem at_79_1 : mm_at 79 1 = some ((.aload_n 0 : Instr), 2, 0, 0) := by decide +kernel
theorem at_79_2 : mm_at 79 2 = some ((.iload_n 1 : Instr), 3, 0, 0) := by decide +kernel
theorem at_79_3 : mm_at 79 3 = some ((.iload_n 2 : Instr), 4, 0, 0) := by decide +kernel
theorem at_79_4 : mm_at 79 4 = some ((.invokevirtual 71 : Instr), 7, 53, 3) := by decide +kernel
theorem at_79_7 : mm_at 79 7 = some ((.ifCond .eq (7) : Instr), 10, 14, 0) := by decide +kernel
theorem at_79_10 : mm_at 79 10 = some ((.iconst (0) : Instr), 11, 0, 0) := by decide +kernel
theorem at_79_11 : mm_at 79 11 = some ((.goto (4) : Instr), 14, 15, 0) := by decide +kernel
theorem at_79_14 : mm_at 79 14 = some ((.iconst (1) : Instr), 15, 0, 0) := by decide +kernel
theorem at_79_15 : mm_at 79 15 = some ((.putfield 54 : Instr), 18, 4, 2) := by decide +kernel
theorem at_79_18 : mm_at 79 18 = some ((.aload_n 0 : Instr), 19, 0, 0) := by decide +kernel
theorem at_79_19 : mm_at 79 19 = some ((.getfield 54 : Instr), 22, 4, 2) := by decide +kernel
theorem at_79_22 : mm_at 79 22 = some ((.ifCond .le (7) : Instr), 25, 29, 0) := by decide +kernel
theorem at_79_25 : mm_at 79 25 = some ((.iconst (0) : Instr), 26, 0, 0) := by decide +kernel
theorem at_79_26 : mm_at 79 26 = some ((.goto (19) : Instr), 29, 45, 0) := by decide +kernel
theorem at_79_29 : mm_at 79 29 = some ((.aload_n 0 : Instr), 30, 0, 0) := by decide +kernel
theorem at_79_30 : mm_at 79 30 = some ((.getfield 29 : Instr), 33, 4, 9) := by decide +kernel
theorem at_79_33 : mm_at 79 33 = some ((.iconst (2) : Instr), 34, 0, 0) := by decide +kernel
theorem at_79_34 : mm_at 79 34 = some ((.iload_n 2 : Instr), 35, 0, 0) := by decide +kernel
theorem at_79_35 : mm_at 79 35 = some ((.imul : Instr), 36, 0, 0) := by decide +kernel
theorem at_79_36 : mm_at 79 36 = some ((.iload_n 1 : Instr), 37, 0, 0) := by decide +kernel
theorem at_79_37 : mm_at 79 37 = some ((.iload_n 2 : Instr), 38, 0, 0) := by decide +kernel
theorem at_79_38 : mm_at 79 38 = some ((.invokestatic 75 : Instr), 41, 58, 2) := by decide +kernel
theorem at_79_41 : mm_at 79 41 = some ((.iadd : Instr), 42, 0, 0) := by decide +kernel
theorem at_79_42 : mm_at 79 42 = some ((.iaload : Instr), 43, 0, 0) := by decide +kernel
theorem at_79_43 : mm_at 79 43 = some ((.iconst (1) : Instr), 44, 0, 0) := by decide +kernel
theorem at_79_44 : mm_at 79 44 = some ((.iand : Instr), 45, 0, 0) := by decide +kernel
theorem at_79_45 : mm_at 79 45 = some ((.ireturn : Instr), 46, 1, 0) := by decide +kernel
theorem at_80_0 : mm_at 80 0 = some ((.aload_n 0 : Instr), 1, 0, 0) := by decide +kernel
theorem at_80_1 : mm_at 80 1 = some ((.aload_n 0 : Instr), 2, 0, 0) := by decide +kernel
theorem at_80_2 : mm_at 80 2 = some ((.iload_n 1 : Instr), 3, 0, 0) := by decide +kernel
theorem at_80_3 : mm_at 80 3 = some ((.iload_n 2 : Instr), 4, 0, 0) := by decide +kernel
theorem at_80_4 : mm_at 80 4 = some ((.invokevirtual 71 : Instr), 7, 53, 3) := by decide +kernel
theorem at_80_7 : mm_at 80 7 = some ((.ifCond .eq (7) : Instr), 10, 14, 0) := by decide +kernel
theorem at_80_10 : mm_at 80 10 = some ((.iconst (0) : Instr), 11, 0, 0) := by decide +kernel
theorem at_80_11 : mm_at 80 11 = some ((.goto (4) : Instr), 14, 15, 0) := by decide +kernel
theorem at_80_14 : mm_at 80 14 = some ((.iconst (1) : Instr), 15, 0, 0) := by decide +kernel
theorem at_80_15 : mm_at 80 15 = some ((.putfield 54 : Instr), 18, 4, 2) := by decide +kernel
theorem at_80_18 : mm_at 80 18 = some ((.aload_n 0 : Instr), 19, 0, 0) := by decide +kernel
theorem at_80_19 : mm_at 80 19 = some ((.getfield 54 : Instr), 22, 4, 2) := by decide +kernel
theorem at_80_22 : mm_at 80 22 = some ((.ifCond .le (7) : Instr), 25, 29, 0) := by decide +kernel
theorem at_80_25 : mm_at 80 25 = some ((.iconst (0) : Instr), 26, 0, 0) := by decide +kernel
theorem at_80_26 : mm_at 80 26 = some ((.goto (13) : Instr), 29, 39, 0) := by decide +kernel
theorem at_80_29 : mm_at 80 29 = some ((.aload_n 0 : Instr), 30, 0, 0) := by decide +kernel
theorem at_80_30 : mm_at 80 30 = some ((.iload_n 2 : Instr), 31, 0, 0) := by decide +kernel
theorem at_80_31 : mm_at 80 31 = some ((.iload_n 1 : Instr), 32, 0, 0) := by decide +kernel
theorem at_80_32 : mm_at 80 32 = some ((.iload_n 2 : Instr), 33, 0, 0) := by decide +kernel
theorem at_80_33 : mm_at 80 33 = some ((.invokestatic 75 : Instr), 36, 58, 2) := by decide +kernel
theorem at_80_36 : mm_at 80 36 = some ((.invokevirtual 104 : Instr), 39, 78, 3) := by decide +kernel
theorem at_80_39 : mm_at 80 39 = some ((.ireturn : Instr), 40, 1, 0) := by decide +kernel
theorem at_81_0 : mm_at 81 0 = some ((.aload_n 0 : Instr), 1, 0, 0) := by decide +kernel
theorem at_81_1 : mm_at 81 1 = some ((.aload_n 0 : Instr), 2, 0, 0) := by decide +kernel
theorem at_81_2 : mm_at 81 2 = some ((.iload_n 1 : Instr), 3, 0, 0) := by decide +kernel
theorem at_81_3 : mm_at 81 3 = some ((.invokevirtual 92 : Instr), 6, 66, 2) := by decide +kernel
theorem at_81_6 : mm_at 81 6 = some ((.ifCond .eq (7) : Instr), 9, 13, 0) := by decide +kernel
theorem at_81_9 : mm_at 81 9 = some ((.iconst (0) : Instr), 10, 0, 0) := by decide +kernel
theorem at_81_10 : mm_at 81 10 = some ((.goto (4) : Instr), 13, 14, 0) := by decide +kernel
theorem at_81_13 : mm_at 81 13 = some ((.iconst (1) : Instr), 14, 0, 0) := by decide +kernel
theorem at_81_14 : mm_at 81 14 = some ((.putfield 54 : Instr), 17, 4, 2) := by decide +kernel
theorem at_81_17 : mm_at 81 17 = some ((.aload_n 0 : Instr), 18, 0, 0) := by decide +kernel
theorem at_81_18 : mm_at 81 18 = some ((.getfield 54 : Instr), 21, 4, 2) := by decide +kernel
theorem at_81_21 : mm_at 81 21 = some ((.ifCond .le (7) : Instr), 24, 28, 0) := by decide +kernel
theorem at_81_24 : mm_at 81 24 = some ((.iconst (0) : Instr), 25, 0, 0) := by decide +kernel
theorem at_81_25 : mm_at 81 25 = some ((.goto (12) : Instr), 28, 37, 0) := by decide +kernel
theorem at_81_28 : mm_at 81 28 = some ((.aload_n 0 : Instr), 29, 0, 0) := by decide +kernel
theorem at_81_29 : mm_at 81 29 = some ((.getfield 33 : Instr), 32, 4, 10) := by decide +kernel
theorem at_81_32 : mm_at 81 32 = some ((.iload_n 1 : Instr), 33, 0, 0) := by decide +kernel
theorem at_81_33 : mm_at 81 33 = some ((.invokestatic 95 : Instr), 36, 67, 1) := by decide +kernel
theorem at_81_36 : mm_at 81 36 = some ((.iaload : Instr), 37, 0, 0) := by decide +kernel
theorem at_81_37 : mm_at 81 37 = some ((.ireturn : Instr), 38, 1, 0) := by decide +kernel
theorem at_82_0 : mm_at 82 0 = some ((.aload_n 0 : Instr), 1, 0, 0) := by decide +kernel
theorem at_82_1 : mm_at 82 1 = some ((.iload_n 1 : Instr), 2, 0, 0) := by decide +kernel
theorem at_82_2 : mm_at 82 2 = some ((.ifCond .lt (9) : Instr), 5, 11, 0) := by decide +kernel
theorem at_82_5 : mm_at 82 5 = some ((.iload_n 1 : Instr), 6, 0, 0) := by decide +kernel
theorem at_82_6 : mm_at 82 6 = some ((.bipush (7) : Instr), 8, 0, 0) := by decide +kernel
theorem at_82_8 : mm_at 82 8 = some ((.if_icmp .le (7) : Instr), 11, 15, 0) := by decide +kernel
theorem at_82_11 : mm_at 82 11 = some ((.iconst (1) : Instr), 12, 0, 0) := by decide +kernel
theorem at_82_12 : mm_at 82 12 = some ((.goto (4) : Instr), 15, 16, 0) := by decide +kernel
theorem at_82_15 : mm_at 82 15 = some ((.iconst (0) : Instr), 16, 0, 0) := by decide +kernel
theorem at_82_16 : mm_at 82 16 = some ((.putfield 54 : Instr), 19, 4, 2) := by decide +kernel
theorem at_82_19 : mm_at 82 19 = some ((.aload_n 0 : Instr), 20, 0, 0) := by decide +kernel
theorem at_82_20 : mm_at 82 20 = some ((.getfield 54 : Instr), 23, 4, 2) := by decide +kernel
theorem at_82_23 : mm_at 82 23 = some ((.ifCond .le (5) : Instr), 26, 28, 0) := by decide +kernel
theorem at_82_26 : mm_at 82 26 = some ((.iconst (0) : Instr), 27, 0, 0) := by decide +kernel
theorem at_82_27 : mm_at 82 27 = some ((.ireturn : Instr), 28, 1, 0) := by decide +kernel
theorem at_82_28 : mm_at 82 28 = some ((.aload_n 0 : Instr), 29, 0, 0) := by decide +kernel
theorem at_82_29 : mm_at 82 29 = some ((.getfield 39 : Instr), 32, 4, 12) := by decide +kernel
theorem at_82_32 : mm_at 82 32 = some ((.iload_n 1 : Instr), 33, 0, 0) := by decide +kernel
theorem at_82_33 : mm_at 82 33 = some ((.baload : Instr), 34, 0, 0) := by decide +kernel
theorem at_82_34 : mm_at 82 34 = some ((.ifCond .ne (7) : Instr), 37, 41, 0) := by decide +kernel
theorem at_82_37 : mm_at 82 37 = some ((.iconst (-1) : Instr), 38, 0, 0) := by decide +kernel
theorem at_82_38 : mm_at 82 38 = some ((.goto (30) : Instr), 41, 68, 0) := by decide +kernel
theorem at_82_41 : mm_at 82 41 = some ((.aload_n 0 : Instr), 42, 0, 0) := by decide +kernel
theorem at_82_42 : mm_at 82 42 = some ((.getfield 45 : Instr), 45, 4, 14) := by decide +kernel
theorem at_82_45 : mm_at 82 45 = some ((.iload_n 1 : Instr), 46, 0, 0) := by decide +kernel
theorem at_82_46 : mm_at 82 46 = some ((.iaload : Instr), 47, 0, 0) := by decide +kernel
theorem at_82_47 : mm_at 82 47 = some ((.ifCond .lt (15) : Instr), 50, 62, 0) := by decide +kernel
theorem at_82_50 : mm_at 82 50 = some ((.bipush (10) : Instr), 52, 0, 0) := by decide +kernel
theorem at_82_52 : mm_at 82 52 = some ((.aload_n 0 : Instr), 53, 0, 0) := by decide +kernel
theorem at_82_53 : mm_at 82 53 = some ((.getfield 45 : Instr), 56, 4, 14) := by decide +kernel
theorem at_82_56 : mm_at 82 56 = some ((.iload_n 1 : Instr), 57, 0, 0) := by decide +kernel
theorem at_82_57 : mm_at 82 57 = some ((.iaload : Instr), 58, 0, 0) := by decide +kernel
theorem at_82_58 : mm_at 82 58 = some ((.iadd : Instr), 59, 0, 0) := by decide +kernel
theorem at_82_59 : mm_at 82 59 = some ((.goto (9) : Instr), 62, 68, 0) := by decide +kernel
theorem at_82_62 : mm_at 82 62 = some ((.aload_n 0 : Instr), 63, 0, 0) := by decide +kernel
theorem at_82_63 : mm_at 82 63 = some ((.getfield 42 : Instr), 66, 4, 13) := by decide +kernel
theorem at_82_66 : mm_at 82 66 = some ((.iload_n 1 : Instr), 67, 0, 0) := by decide +kernel
theorem at_82_67 : mm_at 82 67 = some ((.iaload : Instr), 68, 0, 0) := by decide +kernel
theorem at_82_68 : mm_at 82 68 = some ((.ireturn : Instr), 69, 1, 0) := by decide +kernel
theorem at_83_0 : mm_at 83 0 = some ((.aload_n 0 : Instr), 1, 0, 0) := by decide +kernel
theorem at_83_1 : mm_at 83 1 = some ((.aload_n 0 : Instr), 2, 0, 0) := by decide +kernel
theorem at_83_2 : mm_at 83 2 = some ((.iload_n 2 : Instr), 3, 0, 0) := by decide +kernel
theorem at_83_3 : mm_at 83 3 = some ((.iload_n 1 : Instr), 4, 0, 0) := by decide +kernel
theorem at_83_4 : mm_at 83 4 = some ((.invokevirtual 71 : Instr), 7, 53, 3) := by decide +kernel
theorem at_83_7 : mm_at 83 7 = some ((.ifCond .eq (7) : Instr), 10, 14, 0) := by decide +kernel
theorem at_83_10 : mm_at 83 10 = some ((.iconst (0) : Instr), 11, 0, 0) := by decide +kernel
theorem at_83_11 : mm_at 83 11 = some ((.goto (4) : Instr), 14, 15, 0) := by decide +kernel
theorem at_83_14 : mm_at 83 14 = some ((.iconst (1) : Instr), 15, 0, 0) := by decide +kernel
theorem at_83_15 : mm_at 83 15 = some ((.putfield 54 : Instr), 18, 4, 2) := by decide +kernel
theorem at_83_18 : mm_at 83 18 = some ((.aload_n 0 : Instr), 19, 0, 0) := by decide +kernel
theorem at_83_19 : mm_at 83 19 = some ((.getfield 54 : Instr), 22, 4, 2) := by decide +kernel
theorem at_83_22 : mm_at 83 22 = some ((.ifCond .gt (11) : Instr), 25, 33, 0) := by decide +kernel
theorem at_83_25 : mm_at 83 25 = some ((.aload_n 0 : Instr), 26, 0, 0) := by decide +kernel
theorem at_83_26 : mm_at 83 26 = some ((.iload_n 1 : Instr), 27, 0, 0) := by decide +kernel
theorem at_83_27 : mm_at 83 27 = some ((.invokevirtual 82 : Instr), 30, 62, 2) := by decide +kernel
theorem at_83_30 : mm_at 83 30 = some ((.ifCond .ne (7) : Instr), 33, 37, 0) := by decide +kernel
theorem at_83_33 : mm_at 83 33 = some ((.iconst (0) : Instr), 34, 0, 0) := by decide +kernel
theorem at_83_34 : mm_at 83 34 = some ((.goto (13) : Instr), 37, 47, 0) := by decide +kernel
theorem at_83_37 : mm_at 83 37 = some ((.aload_n 0 : Instr), 38, 0, 0) := by decide +kernel
theorem at_83_38 : mm_at 83 38 = some ((.iload_n 1 : Instr), 39, 0, 0) := by decide +kernel
theorem at_83_39 : mm_at 83 39 = some ((.iload_n 2 : Instr), 40, 0, 0) := by decide +kernel
theorem at_83_40 : mm_at 83 40 = some ((.iload_n 1 : Instr), 41, 0, 0) := by decide +kernel
theorem at_83_41 : mm_at 83 41 = some ((.invokestatic 75 : Instr), 44, 58, 2) := by decide +kernel
theorem at_83_44 : mm_at 83 44 = some ((.invokevirtual 104 : Instr), 47, 78, 3) := by decide +kernel
theorem at_83_47 : mm_at 83 47 = some ((.ireturn : Instr), 48, 1, 0) := by decide +kernel
theorem at_84_0 : mm_at 84 0 = some ((.aload_n 0 : Instr), 1, 0, 0) := by decide +kernel
theorem at_84_1 : mm_at 84 1 = some ((.aload_n 0 : Instr), 2, 0, 0) := by decide +kernel
theorem at_84_2 : mm_at 84 2 = some ((.iload_n 1 : Instr), 3, 0, 0) := by decide +kernel
theorem at_84_3 : mm_at 84 3 = some ((.invokevirtual 57 : Instr), 6, 54, 2) := by decide +kernel
theorem at_84_6 : mm_at 84 6 = some ((.ifCond .eq (7) : Instr), 9, 13, 0) := by decide +kernel
theorem at_84_9 : mm_at 84 9 = some ((.iconst (0) : Instr), 10, 0, 0) := by decide +kernel
theorem at_84_10 : mm_at 84 10 = some ((.goto (4) : Instr), 13, 14, 0) := by decide +kernel
theorem at_84_13 : mm_at 84 13 = some ((.iconst (1) : Instr), 14, 0, 0) := by decide +kernel
theorem at_84_14 : mm_at 84 14 = some ((.putfield 54 : Instr), 17, 4, 2) := by decide +kernel
theorem at_84_17 : mm_at 84 17 = some ((.aload_n 0 : Instr), 18, 0, 0) := by decide +kernel
theorem at_84_18 : mm_at 84 18 = some ((.getfield 54 : Instr), 21, 4, 2) := by decide +kernel
theorem at_84_21 : mm_at 84 21 = some ((.ifCond .ne (16) : Instr), 24, 37, 0) := by decide +kernel
theorem at_84_24 : mm_at 84 24 = some ((.aload_n 0 : Instr), 25, 0, 0) := by decide +kernel
theorem at_84_25 : mm_at 84 25 = some ((.getfield 17 : Instr), 28, 4, 5) := by decide +kernel
theorem at_84_28 : mm_at 84 28 = some ((.iload_n 1 : Instr), 29, 0, 0) := by decide +kernel
theorem at_84_29 : mm_at 84 29 = some ((.baload : Instr), 30, 0, 0) := by decide +kernel
theorem at_84_30 : mm_at 84 30 = some ((.ifCond .eq (7) : Instr), 33, 37, 0) := by decide +kernel
theorem at_84_33 : mm_at 84 33 = some ((.iconst (1) : Instr), 34, 0, 0) := by decide +kernel
theorem at_84_34 : mm_at 84 34 = some ((.goto (4) : Instr), 37, 38, 0) := by decide +kernel
theorem at_84_37 : mm_at 84 37 = some ((.iconst (0) : Instr), 38, 0, 0) := by decide +kernel
theorem at_84_38 : mm_at 84 38 = some ((.ireturn : Instr), 39, 2, 0) := by decide +kernel
theorem at_85_0 : mm_at 85 0 = some ((.iload_n 1 : Instr), 1, 0, 0) := by decide +kernel
theorem at_85_1 : mm_at 85 1 = some ((.aload_n 0 : Instr), 2, 0, 0) := by decide +kernel
theorem at_85_2 : mm_at 85 2 = some ((.arraylength : Instr), 3, 0, 0) := by decide +kernel
theorem at_85_3 : mm_at 85 3 = some ((.if_icmp .ge (9) : Instr), 6, 12, 0) := by decide +kernel
theorem at_85_6 : mm_at 85 6 = some ((.aload_n 0 : Instr), 7, 0, 0) := by decide +kernel
theorem at_85_7 : mm_at 85 7 = some ((.iload_n 1 : Instr), 8, 0, 0) := by decide +kernel
theorem at_85_8 : mm_at 85 8 = some ((.iaload : Instr), 9, 0, 0) := by decide +kernel
theorem at_85_9 : mm_at 85 9 = some ((.goto (4) : Instr), 12, 13, 0) := by decide +kernel
theorem at_85_12 : mm_at 85 12 = some ((.iconst (0) : Instr), 13, 0, 0) := by decide +kernel
theorem at_85_13 : mm_at 85 13 = some ((.ireturn : Instr), 14, 1, 0) := by decide +kernel
theorem at_86_0 : mm_at 86 0 = some ((.aload_n 0 : Instr), 1, 0, 0) := by decide +kernel
theorem at_86_1 : mm_at 86 1 = some ((.iload_n 1 : Instr), 2, 0, 0) := by decide +kernel
theorem at_86_2 : mm_at 86 2 = some ((.iload_n 2 : Instr), 3, 0, 0) := by decide +kernel
theorem at_86_3 : mm_at 86 3 = some ((.iload_n 3 : Instr), 4, 0, 0) := by decide +kernel
theorem at_86_4 : mm_at 86 4 = some ((.invokevirtual 7 : Instr), 7, 1, 4) := by decide +kernel
theorem at_86_7 : mm_at 86 7 = some ((.goto (7) : Instr), 10, 14, 0) := by decide +kernel
theorem at_86_10 : mm_at 86 10 = some ((.astore 4 : Instr), 12, 0, 0) := by decide +kernel
theorem at_86_12 : mm_at 86 12 = some ((.iconst (1) : Instr), 13, 0, 0) := by decide +kernel
theorem at_86_13 : mm_at 86 13 = some ((.ireturn : Instr), 14, 1, 0) := by decide +kernel
theorem at_86_14 : mm_at 86 14 = some ((.iconst (0) : Instr), 15, 0, 0) := by decide +kernel
theorem at_86_15 : mm_at 86 15 = some ((.ireturn : Instr), 16, 1, 0) := by decide +kernel
theorem at_87_0 : mm_at 87 0 = some ((.aload_n 0 : Instr), 1, 0, 0) := by decide +kernel
theorem at_87_1 : mm_at 87 1 = some ((.iload_n 1 : Instr), 2, 0, 0) := by decide +kernel
theorem at_87_2 : mm_at 87 2 = some ((.iload_n 2 : Instr), 3, 0, 0) := by decide +kernel
theorem at_87_3 : mm_at 87 3 = some ((.invokevirtual 15 : Instr), 6, 5, 3) := by decide +kernel
theorem at_87_6 : mm_at 87 6 = some ((.goto (6) : Instr), 9, 12, 0) := by decide +kernel
theorem at_87_9 : mm_at 87 9 = some ((.astore_n 3 : Instr), 10, 0, 0) := by decide +kernel
theorem at_87_10 : mm_at 87 10 = some ((.iconst (1) : Instr), 11, 0, 0) := by decide +kernel
theorem at_87_11 : mm_at 87 11 = some ((.ireturn : Instr), 12, 1, 0) := by decide +kernel
theorem at_87_12 : mm_at 87 12 = some ((.iconst (0) : Instr), 13, 0, 0) := by decide +kernel
theorem at_87_13 : mm_at 87 13 = some ((.ireturn : Instr), 14, 1, 0) := by decide +kernel
theorem at_88_0 : mm_at 88 0 = some ((.aload_n 3 : Instr), 1, 0, 0) := by decide +kernel
theorem at_88_1 : mm_at 88 1 = some ((.iconst (0) : Instr), 2, 0, 0) := by decide +kernel
theorem at_88_2 : mm_at 88 2 = some ((.aload_n 0 : Instr), 3, 0, 0) := by decide +kernel
theorem at_88_3 : mm_at 88 3 = some ((.iload_n 1 : Instr), 4, 0, 0) := by decide +kernel
theorem at_88_4 : mm_at 88 4 = some ((.iload_n 2 : Instr), 5, 0, 0) := by decide +kernel
theorem at_88_5 : mm_at 88 5 = some ((.invokevirtual 19 : Instr), 8, 6, 3) := by decide +kernel
theorem at_88_8 : mm_at 88 8 = some ((.i2l : Instr), 9, 0, 0) := by decide +kernel
theorem at_88_9 : mm_at 88 9 = some ((.lastore : Instr), 10, 0, 0) := by decide +kernel
theorem at_88_10 : mm_at 88 10 = some ((.goto (7) : Instr), 13, 17, 0) := by decide +kernel
theorem at_88_13 : mm_at 88 13 = some ((.astore 4 : Instr), 15, 0, 0) := by decide +kernel
theorem at_88_15 : mm_at 88 15 = some ((.iconst (1) : Instr), 16, 0, 0) := by decide +kernel
theorem at_88_16 : mm_at 88 16 = some ((.ireturn : Instr), 17, 1, 0) := by decide +kernel
theorem at_88_17 : mm_at 88 17 = some ((.iconst (0) : Instr), 18, 0, 0) := by decide +kernel
theorem at_88_18 : mm_at 88 18 = some ((.ireturn : Instr), 19, 1, 0) := by decide +kernel
theorem at_89_0 : mm_at 89 0 = some ((.aload_n 0 : Instr), 1, 0, 0) := by decide +kernel
theorem at_89_1 : mm_at 89 1 = some ((.iload_n 1 : Instr), 2, 0, 0) := by decide +kernel
theorem at_89_2 : mm_at 89 2 = some ((.iload_n 2 : Instr), 3, 0, 0) := by decide +kernel
theorem at_89_3 : mm_at 89 3 = some ((.iload_n 3 : Instr), 4, 0, 0) := by decide +kernel
theorem at_89_4 : mm_at 89 4 = some ((.invokevirtual 23 : Instr), 7, 10, 4) := by decide +kernel
theorem at_89_7 : mm_at 89 7 = some ((.goto (11) : Instr), 10, 18, 0) := by decide +kernel
theorem at_89_10 : mm_at 89 10 = some ((.astore 4 : Instr), 12, 0, 0) := by decide +kernel
theorem at_89_12 : mm_at 89 12 = some ((.iconst (1) : Instr), 13, 0, 0) := by decide +kernel
theorem at_89_13 : mm_at 89 13 = some ((.ireturn : Instr), 14, 1, 0) := by decide +kernel
theorem at_89_14 : mm_at 89 14 = some ((.astore 4 : Instr), 16, 0, 0) := by decide +kernel
theorem at_89_16 : mm_at 89 16 = some ((.iconst (2) : Instr), 17, 0, 0) := by decide +kernel
theorem at_89_17 : mm_at 89 17 = some ((.ireturn : Instr), 18, 1, 0) := by decide +kernel
theorem at_89_18 : mm_at 89 18 = some ((.iconst (0) : Instr), 19, 0, 0) := by decide +kernel
theorem at_89_19 : mm_at 89 19 = some ((.ireturn : Instr), 20, 1, 0) := by decide +kernel
theorem at_90_0 : mm_at 90 0 = some ((.aload_n 0 : Instr), 1, 0, 0) := by decide +kernel
theorem at_90_1 : mm_at 90 1 = some ((.iload_n 1 : Instr), 2, 0, 0) := by decide +kernel
theorem at_90_2 : mm_at 90 2 = some ((.iload_n 2 : Instr), 3, 0, 0) := by decide +kernel
theorem at_90_3 : mm_at 90 3 = some ((.invokevirtual 29 : Instr), 6, 13, 3) := by decide +kernel
theorem at_90_6 : mm_at 90 6 = some ((.goto (9) : Instr), 9, 15, 0) := by decide +kernel
theorem at_90_9 : mm_at 90 9 = some ((.astore_n 3 : Instr), 10, 0, 0) := by decide +kernel
theorem at_90_10 : mm_at 90 10 = some ((.iconst (1) : Instr), 11, 0, 0) := by decide +kernel
theorem at_90_11 : mm_at 90 11 = some ((.ireturn : Instr), 12, 1, 0) := by decide +kernel
theorem at_90_12 : mm_at 90 12 = some ((.astore_n 3 : Instr), 13, 0, 0) := by decide +kernel
theorem at_90_13 : mm_at 90 13 = some ((.iconst (2) : Instr), 14, 0, 0) := by decide +kernel
theorem at_90_14 : mm_at 90 14 = some ((.ireturn : Instr), 15, 1, 0) := by decide +kernel
theorem at_90_15 : mm_at 90 15 = some ((.iconst (0) : Instr), 16, 0, 0) := by decide +kernel
theorem at_90_16 : mm_at 90 16 = some ((.ireturn : Instr), 17, 1, 0) := by decide +kernel
theorem at_91_0 : mm_at 91 0 = some ((.aload_n 0 : Instr), 1, 0, 0) := by decide +kernel
theorem at_91_1 : mm_at 91 1 = some ((.iload_n 1 : Instr), 2, 0, 0) := by decide +kernel
theorem at_91_2 : mm_at 91 2 = some ((.iload_n 2 : Instr), 3, 0, 0) := by decide +kernel
theorem at_91_3 : mm_at 91 3 = some ((.invokevirtual 33 : Instr), 6, 16, 3) := by decide +kernel
theorem at_91_6 : mm_at 91 6 = some ((.goto (9) : Instr), 9, 15, 0) := by decide +kernel
theorem at_91_9 : mm_at 91 9 = some ((.astore_n 3 : Instr), 10, 0, 0) := by decide +kernel
theorem at_91_10 : mm_at 91 10 = some ((.iconst (1) : Instr), 11, 0, 0) := by decide +kernel
theorem at_91_11 : mm_at 91 11 = some ((.ireturn : Instr), 12, 1, 0) := by decide +kernel
theorem at_91_12 : mm_at 91 12 = some ((.astore_n 3 : Instr), 13, 0, 0) := by decide +kernel
theorem at_91_13 : mm_at 91 13 = some ((.iconst (2) : Instr), 14, 0, 0) := by decide +kernel
theorem at_91_14 : mm_at 91 14 = some ((.ireturn : Instr), 15, 1, 0) := by decide +kernel
theorem at_91_15 : mm_at 91 15 = some ((.iconst (0) : Instr), 16, 0, 0) := by decide +kernel
theorem at_91_16 : mm_at 91 16 = some ((.ireturn : Instr), 17, 1, 0) := by decide +kernel
theorem at_92_0 : mm_at 92 0 = some ((.aload_n 2 : Instr), 1, 0, 0) := by decide +kernel
theorem at_92_1 : mm_at 92 1 = some ((.iconst (0) : Instr), 2, 0, 0) := by decide +kernel
theorem at_92_2 : mm_at 92 2 = some ((.aload_n 0 : Instr), 3, 0, 0) := by decide +kernel
theorem at_92_3 : mm_at 92 3 = some ((.iload_n 1 : Instr), 4, 0, 0) := by decide +kernel
theorem at_92_4 : mm_at 92 4 = some ((.invokevirtual 36 : Instr), 7, 18, 2) := by decide +kernel
theorem at_92_7 : mm_at 92 7 = some ((.i2l : Instr), 8, 0, 0) := by decide +kernel
theorem at_92_8 : mm_at 92 8 = some ((.lastore : Instr), 9, 0, 0) := by decide +kernel
theorem at_92_9 : mm_at 92 9 = some ((.goto (9) : Instr), 12, 18, 0) := by decide +kernel
theorem at_92_12 : mm_at 92 12 = some ((.astore_n 3 : Instr), 13, 0, 0) := by decide +kernel
theorem at_92_13 : mm_at 92 13 = some ((.iconst (1) : Instr), 14, 0, 0) := by decide +kernel
theorem at_92_14 : mm_at 92 14 = some ((.ireturn : Instr), 15, 1, 0) := by decide +kernel
theorem at_92_15 : mm_at 92 15 = some ((.astore_n 3 : Instr), 16, 0, 0) := by decide +kernel
theorem at_92_16 : mm_at 92 16 = some ((.iconst (2) : Instr), 17, 0, 0) := by decide +kernel
theorem at_92_17 : mm_at 92 17 = some ((.ireturn : Instr), 18, 1, 0) := by decide +kernel
theorem at_92_18 : mm_at 92 18 = some ((.iconst (0) : Instr), 19, 0, 0) := by decide +kernel
theorem at_92_19 : mm_at 92 19 = some ((.ireturn : Instr), 20, 1, 0) := by decide +kernel
theorem at_93_0 : mm_at 93 0 = some ((.aload_n 3 : Instr), 1, 0, 0) := by decide +kernel
theorem at_93_1 : mm_at 93 1 = some ((.iconst (0) : Instr), 2, 0, 0) := by decide +kernel
theorem at_93_2 : mm_at 93 2 = some ((.aload_n 0 : Instr), 3, 0, 0) := by decide +kernel
theorem at_93_3 : mm_at 93 3 = some ((.iload_n 1 : Instr), 4, 0, 0) := by decide +kernel
theorem at_93_4 : mm_at 93 4 = some ((.iload_n 2 : Instr), 5, 0, 0) := by decide +kernel
theorem at_93_5 : mm_at 93 5 = some ((.invokevirtual 40 : Instr), 8, 19, 3) := by decide +kernel
theorem at_93_8 : mm_at 93 8 = some ((.i2l : Instr), 9, 0, 0) := by decide +kernel
theorem at_93_9 : mm_at 93 9 = some ((.lastore : Instr), 10, 0, 0) := by decide +kernel
theorem at_93_10 : mm_at 93 10 = some ((.goto (19) : Instr), 13, 29, 0) := by decide +kernel
theorem at_93_13 : mm_at 93 13 = some ((.astore 4 : Instr), 15, 0, 0) := by decide +kernel
theorem at_93_15 : mm_at 93 15 = some ((.iconst (1) : Instr), 16, 0, 0) := by decide +kernel
theorem at_93_16 : mm_at 93 16 = some ((.ireturn : Instr), 17, 1, 0) := by decide +kernel
theorem at_93_17 : mm_at 93 17 = some ((.astore 4 : Instr), 19, 0, 0) := by decide +kernel
theorem at_93_19 : mm_at 93 19 = some ((.iconst (2) : Instr), 20, 0, 0) := by decide +kernel
theorem at_93_20 : mm_at 93 20 = some ((.ireturn : Instr), 21, 1, 0) := by decide +kernel
theorem at_93_21 : mm_at 93 21 = some ((.astore 4 : Instr), 23, 0, 0) := by decide +kernel
theorem at_93_23 : mm_at 93 23 = some ((.iconst (3) : Instr), 24, 0, 0) := by decide +kernel
theorem at_93_24 : mm_at 93 24 = some ((.ireturn : Instr), 25, 1, 0) := by decide +kernel
theorem at_93_25 : mm_at 93 25 = some ((.astore 4 : Instr), 27, 0, 0) := by decide +kernel
theorem at_93_27 : mm_at 93 27 = some ((.iconst (4) : Instr), 28, 0, 0) := by decide +kernel
theorem at_93_28 : mm_at 93 28 = some ((.ireturn : Instr), 29, 1, 0) := by decide +kernel
theorem at_93_29 : mm_at 93 29 = some ((.iconst (0) : Instr), 30, 0, 0) := by decide +kernel
theorem at_93_30 : mm_at 93 30 = some ((.ireturn : Instr), 31, 1, 0) := by decide +kernel
theorem at_94_0 : mm_at 94 0 = some ((.aload_n 2 : Instr), 1, 0, 0) := by decide +kernel
theorem at_94_1 : mm_at 94 1 = some ((.iconst (0) : Instr), 2, 0, 0) := by decide +kernel
theorem at_94_2 : mm_at 94 2 = some ((.aload_n 0 : Instr), 3, 0, 0) := by decide +kernel
theorem at_94_3 : mm_at 94 3 = some ((.iload_n 1 : Instr), 4, 0, 0) := by decide +kernel
theorem at_94_4 : mm_at 94 4 = some ((.invokevirtual 48 : Instr), 7, 22, 2) := by decide +kernel
theorem at_94_7 : mm_at 94 7 = some ((.i2l : Instr), 8, 0, 0) := by decide +kernel
theorem at_94_8 : mm_at 94 8 = some ((.lastore : Instr), 9, 0, 0) := by decide +kernel
theorem at_94_9 : mm_at 94 9 = some ((.goto (9) : Instr), 12, 18, 0) := by decide +kernel
theorem at_94_12 : mm_at 94 12 = some ((.astore_n 3 : Instr), 13, 0, 0) := by decide +kernel
theorem at_94_13 : mm_at 94 13 = some ((.iconst (1) : Instr), 14, 0, 0) := by decide +kernel
theorem at_94_14 : mm_at 94 14 = some ((.ireturn : Instr), 15, 1, 0) := by decide +kernel
theorem at_94_15 : mm_at 94 15 = some ((.astore_n 3 : Instr), 16, 0, 0) := by decide +kernel
theorem at_94_16 : mm_at 94 16 = some ((.iconst (2) : Instr), 17, 0, 0) := by decide +kernel
theorem at_94_17 : mm_at 94 17 = some ((.ireturn : Instr), 18, 1, 0) := by decide +kernel
theorem at_94_18 : mm_at 94 18 = some ((.iconst (0) : Instr), 19, 0, 0) := by decide +kernel
theorem at_94_19 : mm_at 94 19 = some ((.ireturn : Instr), 20, 1, 0) := by decide +kernel
theorem at_95_0 : mm_at 95 0 = some ((.aload_n 2 : Instr), 1, 0, 0) := by decide +kernel
theorem at_95_1 : mm_at 95 1 = some ((.iconst (0) : Instr), 2, 0, 0) := by decide +kernel
theorem at_95_2 : mm_at 95 2 = some ((.aload_n 0 : Instr), 3, 0, 0) := by decide +kernel
theorem at_95_3 : mm_at 95 3 = some ((.iload_n 1 : Instr), 4, 0, 0) := by decide +kernel
theorem at_95_4 : mm_at 95 4 = some ((.invokevirtual 51 : Instr), 7, 23, 2) := by decide +kernel
theorem at_95_7 : mm_at 95 7 = some ((.i2l : Instr), 8, 0, 0) := by decide +kernel
theorem at_95_8 : mm_at 95 8 = some ((.lastore : Instr), 9, 0, 0) := by decide +kernel
theorem at_95_9 : mm_at 95 9 = some ((.goto (6) : Instr), 12, 15, 0) := by decide +kernel
theorem at_95_12 : mm_at 95 12 = some ((.astore_n 3 : Instr), 13, 0, 0) := by decide +kernel
theorem at_95_13 : mm_at 95 13 = some ((.iconst (1) : Instr), 14, 0, 0) := by decide +kernel
theorem at_95_14 : mm_at 95 14 = some ((.ireturn : Instr), 15, 1, 0) := by decide +kernel
theorem at_95_15 : mm_at 95 15 = some ((.iconst (0) : Instr), 16, 0, 0) := by decide +kernel
theorem at_95_16 : mm_at 95 16 = some ((.ireturn : Instr), 17, 1, 0) := by decide +kernel
theorem at_96_0 : mm_at 96 0 = some ((.aload_n 2 : Instr), 1, 0, 0) := by decide +kernel
theorem at_96_1 : mm_at 96 1 = some ((.iconst (0) : Instr), 2, 0, 0) := by decide +kernel
theorem at_96_2 : mm_at 96 2 = some ((.aload_n 0 : Instr), 3, 0, 0) := by decide +kernel
theorem at_96_3 : mm_at 96 3 = some ((.iload_n 1 : Instr), 4, 0, 0) := by decide +kernel
theorem at_96_4 : mm_at 96 4 = some ((.invokevirtual 54 : Instr), 7, 26, 2) := by decide +kernel
theorem at_96_7 : mm_at 96 7 = some ((.i2l : Instr), 8, 0, 0) := by decide +kernel
theorem at_96_8 : mm_at 96 8 = some ((.lastore : Instr), 9, 0, 0) := by decide +kernel
theorem at_96_9 : mm_at 96 9 = some ((.goto (6) : Instr), 12, 15, 0) := by decide +kernel
theorem at_96_12 : mm_at 96 12 = some ((.astore_n 3 : Instr), 13, 0, 0) := by decide +kernel
theorem at_96_13 : mm_at 96 13 = some ((.iconst (1) : Instr), 14, 0, 0) := by decide +kernel
theorem at_96_14 : mm_at 96 14 = some ((.ireturn : Instr), 15, 1, 0) := by decide +kernel
theorem at_96_15 : mm_at 96 15 = some ((.iconst (0) : Instr), 16, 0, 0) := by decide +kernel
theorem at_96_16 : mm_at 96 16 = some ((.ireturn : Instr), 17, 1, 0) := by decide +kernel
theorem at_97_0 : mm_at 97 0 = some ((.aload_n 0 : Instr), 1, 0, 0) := by decide +kernel
theorem at_97_1 : mm_at 97 1 = some ((.iload_n 1 : Instr), 2, 0, 0) := by decide +kernel
theorem at_97_2 : mm_at 97 2 = some ((.iload_n 2 : Instr), 3, 0, 0) := by decide +kernel
theorem at_97_3 : mm_at 97 3 = some ((.iload_n 3 : Instr), 4, 0, 0) := by decide +kernel
theorem at_97_4 : mm_at 97 4 = some ((.invokevirtual 57 : Instr), 7, 27, 4) := by decide +kernel
theorem at_97_7 : mm_at 97 7 = some ((.goto (15) : Instr), 10, 22, 0) := by decide +kernel
theorem at_97_10 : mm_at 97 10 = some ((.astore 4 : Instr), 12, 0, 0) := by decide +kernel
theorem at_97_12 : mm_at 97 12 = some ((.iconst (1) : Instr), 13, 0, 0) := by decide +kernel
theorem at_97_13 : mm_at 97 13 = some ((.ireturn : Instr), 14, 1, 0) := by decide +kernel
theorem at_97_14 : mm_at 97 14 = some ((.astore 4 : Instr), 16, 0, 0) := by decide +kernel
theorem at_97_16 : mm_at 97 16 = some ((.iconst (2) : Instr), 17, 0, 0) := by decide +kernel
theorem at_97_17 : mm_at 97 17 = some ((.ireturn : Instr), 18, 1, 0) := by decide +kernel
theorem at_97_18 : mm_at 97 18 = some ((.astore 4 : Instr), 20, 0, 0) := by decide +kernel
theorem at_97_20 : mm_at 97 20 = some ((.iconst (3) : Instr), 21, 0, 0) := by decide +kernel
theorem at_97_21 : mm_at 97 21 = some ((.ireturn : Instr), 22, 1, 0) := by decide +kernel
theorem at_97_22 : mm_at 97 22 = some ((.iconst (0) : Instr), 23, 0, 0) := by decide +kernel
theorem at_97_23 : mm_at 97 23 = some ((.ireturn : Instr), 24, 1, 0) := by decide +kernel
theorem at_98_0 : mm_at 98 0 = some ((.aload_n 3 : Instr), 1, 0, 0) := by decide +kernel
theorem at_98_1 : mm_at 98 1 = some ((.iconst (0) : Instr), 2, 0, 0) := by decide +kernel
theorem at_98_2 : mm_at 98 2 = some ((.aload_n 0 : Instr), 3, 0, 0) := by decide +kernel
theorem at_98_3 : mm_at 98 3 = some ((.iload_n 1 : Instr), 4, 0, 0) := by decide +kernel
theorem at_98_4 : mm_at 98 4 = some ((.iload_n 2 : Instr), 5, 0, 0) := by decide +kernel
theorem at_98_5 : mm_at 98 5 = some ((.invokevirtual 60 : Instr), 8, 28, 3) := by decide +kernel
theorem at_98_8 : mm_at 98 8 = some ((.i2l : Instr), 9, 0, 0) := by decide +kernel
theorem at_98_9 : mm_at 98 9 = some ((.lastore : Instr), 10, 0, 0) := by decide +kernel
theorem at_98_10 : mm_at 98 10 = some ((.goto (7) : Instr), 13, 17, 0) := by decide +kernel
theorem at_98_13 : mm_at 98 13 = some ((.astore 4 : Instr), 15, 0, 0) := by decide +kernel
theorem at_98_15 : mm_at 98 15 = some ((.iconst (1) : Instr), 16, 0, 0) := by decide +kernel
theorem at_98_16 : mm_at 98 16 = some ((.ireturn : Instr), 17, 1, 0) := by decide +kernel
theorem at_98_17 : mm_at 98 17 = some ((.iconst (0) : Instr), 18, 0, 0) := by decide +kernel
theorem at_98_18 : mm_at 98 18 = some ((.ireturn : Instr), 19, 1, 0) := by decide +kernel
theorem at_99_0 : mm_at 99 0 = some ((.aload_n 3 : Instr), 1, 0, 0) := by decide +kernel
theorem at_99_1 : mm_at 99 1 = some ((.iconst (0) : Instr), 2, 0, 0) := by decide +kernel
theorem at_99_2 : mm_at 99 2 = some ((.aload_n 0 : Instr), 3, 0, 0) := by decide +kernel
theorem at_99_3 : mm_at 99 3 = some ((.iload_n 1 : Instr), 4, 0, 0) := by decide +kernel
theorem at_99_4 : mm_at 99 4 = some ((.iload_n 2 : Instr), 5, 0, 0) := by decide +kernel
theorem at_99_5 : mm_at 99 5 = some ((.invokevirtual 63 : Instr), 8, 29, 3) := by decide +kernel
theorem at_99_8 : mm_at 99 8 = some ((.i2l : Instr), 9, 0, 0) := by decide +kernel
theorem at_99_9 : mm_at 99 9 = some ((.lastore : Instr), 10, 0, 0) := by decide +kernel
theorem at_99_10 : mm_at 99 10 = some ((.goto (7) : Instr), 13, 17, 0) := by decide +kernel
theorem at_99_13 : mm_at 99 13 = some ((.astore 4 : Instr), 15, 0, 0) := by decide +kernel
theorem at_99_15 : mm_at 99 15 = some ((.iconst (1) : Instr), 16, 0, 0) := by decide +kernel
theorem at_99_16 : mm_at 99 16 = some ((.ireturn : Instr), 17, 1, 0) := by decide +kernel
theorem at_99_17 : mm_at 99 17 = some ((.iconst (0) : Instr), 18, 0, 0) := by decide +kernel
theorem at_99_18 : mm_at 99 18 = some ((.ireturn : Instr), 19, 1, 0) := by decide +kernel
theorem at_100_0 : mm_at 100 0 = some ((.aload_n 2 : Instr), 1, 0, 0) := by decide +kernel
theorem at_100_1 : mm_at 100 1 = some ((.iconst (0) : Instr), 2, 0, 0) := by decide +kernel
theorem at_100_2 : mm_at 100 2 = some ((.aload_n 0 : Instr), 3, 0, 0) := by decide +kernel
theorem at_100_3 : mm_at 100 3 = some ((.iload_n 1 : Instr), 4, 0, 0) := by decide +kernel
theorem at_100_4 : mm_at 100 4 = some ((.invokevirtual 66 : Instr), 7, 30, 2) := by decide +kernel
theorem at_100_7 : mm_at 100 7 = some ((.i2l : Instr), 8, 0, 0) := by decide +kernel
theorem at_100_8 : mm_at 100 8 = some ((.lastore : Instr), 9, 0, 0) := by decide +kernel
theorem at_100_9 : mm_at 100 9 = some ((.goto (6) : Instr), 12, 15, 0) := by decide +kernel
theorem at_100_12 : mm_at 100 12 = some ((.astore_n 3 : Instr), 13, 0, 0) := by decide +kernel
theorem at_100_13 : mm_at 100 13 = some ((.iconst (1) : Instr), 14, 0, 0) := by decide +kernel
theorem at_100_14 : mm_at 100 14 = some ((.ireturn : Instr), 15, 1, 0) := by decide +kernel
theorem at_100_15 : mm_at 100 15 = some ((.iconst (0) : Instr), 16, 0, 0) := by decide +kernel
theorem at_100_16 : mm_at 100 16 = some ((.ireturn : Instr), 17, 1, 0) := by decide +kernel
theorem at_101_0 : mm_at 101 0 = some ((.aload_n 2 : Instr), 1, 0, 0) := by decide +kernel
theorem at_101_1 : mm_at 101 1 = some ((.iconst (0) : Instr), 2, 0, 0) := by decide +kernel
theorem at_101_2 : mm_at 101 2 = some ((.aload_n 0 : Instr), 3, 0, 0) := by decide +kernel
theorem at_101_3 : mm_at 101 3 = some ((.iload_n 1 : Instr), 4, 0, 0) := by decide +kernel
theorem at_101_4 : mm_at 101 4 = some ((.invokevirtual 69 : Instr), 7, 31, 2) := by decide +kernel
theorem at_101_7 : mm_at 101 7 = some ((.i2l : Instr), 8, 0, 0) := by decide +kernel
theorem at_101_8 : mm_at 101 8 = some ((.lastore : Instr), 9, 0, 0) := by decide +kernel
theorem at_101_9 : mm_at 101 9 = some ((.goto (6) : Instr), 12, 15, 0) := by decide +kernel
theorem at_101_12 : mm_at 101 12 = some ((.astore_n 3 : Instr), 13, 0, 0) := by decide +kernel
theorem at_101_13 : mm_at 101 13 = some ((.iconst (1) : Instr), 14, 0, 0) := by decide +kernel
theorem at_101_14 : mm_at 101 14 = some ((.ireturn : Instr), 15, 1, 0) := by decide +kernel
theorem at_101_15 : mm_at 101 15 = some ((.iconst (0) : Instr), 16, 0, 0) := by decide +kernel
theorem at_101_16 : mm_at 101 16 = some ((.ireturn : Instr), 17, 1, 0) := by decide +kernel
theorem at_102_0 : mm_at 102 0 = some ((.aload_n 3 : Instr), 1, 0, 0) := by decide +kernel
theorem at_102_1 : mm_at 102 1 = some ((.iconst (0) : Instr), 2, 0, 0) := by decide +kernel
theorem at_102_2 : mm_at 102 2 = some ((.aload_n 0 : Instr), 3, 0, 0) := by decide +kernel
theorem at_102_3 : mm_at 102 3 = some ((.iload_n 1 : Instr), 4, 0, 0) := by decide +kernel
theorem at_102_4 : mm_at 102 4 = some ((.iload_n 2 : Instr), 5, 0, 0) := by decide +kernel
theorem at_102_5 : mm_at 102 5 = some ((.invokevirtual 72 : Instr), 8, 32, 3) := by decide +kernel
theorem at_102_8 : mm_at 102 8 = some ((.i2l : Instr), 9, 0, 0) := by decide +kernel
theorem at_102_9 : mm_at 102 9 = some ((.lastore : Instr), 10, 0, 0) := by decide +kernel
theorem at_102_10 : mm_at 102 10 = some ((.goto (7) : Instr), 13, 17, 0) := by decide +kernel
theorem at_102_13 : mm_at 102 13 = some ((.astore 4 : Instr), 15, 0, 0) := by decide +kernel
theorem at_102_15 : mm_at 102 15 = some ((.iconst (1) : Instr), 16, 0, 0) := by decide +kernel
theorem at_102_16 : mm_at 102 16 = some ((.ireturn : Instr), 17, 1, 0) := by decide +kernel
theorem at_102_17 : mm_at 102 17 = some ((.iconst (0) : Instr), 18, 0, 0) := by decide +kernel
theorem at_102_18 : mm_at 102 18 = some ((.ireturn : Instr), 19, 1, 0) := by decide +kernel
theorem at_103_0 : mm_at 103 0 = some ((.aload_n 2 : Instr), 1, 0, 0) := by decide +kernel
theorem at_103_1 : mm_at 103 1 = some ((.iconst (0) : Instr), 2, 0, 0) := by decide +kernel
theorem at_103_2 : mm_at 103 2 = some ((.aload_n 0 : Instr), 3, 0, 0) := by decide +kernel
theorem at_103_3 : mm_at 103 3 = some ((.iload_n 1 : Instr), 4, 0, 0) := by decide +kernel
theorem at_103_4 : mm_at 103 4 = some ((.invokevirtual 75 : Instr), 7, 33, 2) := by decide +kernel
theorem at_103_7 : mm_at 103 7 = some ((.ifCond .eq (7) : Instr), 10, 14, 0) := by decide +kernel
theorem at_103_10 : mm_at 103 10 = some ((.lconst 1 : Instr), 11, 0, 0) := by decide +kernel
theorem at_103_11 : mm_at 103 11 = some ((.goto (4) : Instr), 14, 15, 0) := by decide +kernel
theorem at_103_14 : mm_at 103 14 = some ((.lconst 0 : Instr), 15, 0, 0) := by decide +kernel
theorem at_103_15 : mm_at 103 15 = some ((.lastore : Instr), 16, 0, 0) := by decide +kernel
theorem at_103_16 : mm_at 103 16 = some ((.goto (6) : Instr), 19, 22, 0) := by decide +kernel
theorem at_103_19 : mm_at 103 19 = some ((.astore_n 3 : Instr), 20, 0, 0) := by decide +kernel
theorem at_103_20 : mm_at 103 20 = some ((.iconst (1) : Instr), 21, 0, 0) := by decide +kernel
theorem at_103_21 : mm_at 103 21 = some ((.ireturn : Instr), 22, 1, 0) := by decide +kernel
theorem at_103_22 : mm_at 103 22 = some ((.iconst (0) : Instr), 23, 0, 0) := by decide +kernel
theorem at_103_23 : mm_at 103 23 = some ((.ireturn : Instr), 24, 1, 0) := by decide +kernel
