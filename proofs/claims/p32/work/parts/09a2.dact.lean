theorem dL_below_0 : decode cL_below 0 = .ok (.iload_n 0, 1) := by decide +kernel
theorem dL_below_1 : decode cL_below 1 = .ok (.ldc 7, 2) := by decide +kernel
theorem dL_below_3 : decode cL_below 3 = .ok (.iand, 1) := by decide +kernel
theorem dL_below_4 : decode cL_below 4 = .ok (.iload_n 1, 1) := by decide +kernel
theorem dL_below_5 : decode cL_below 5 = .ok (.irem, 1) := by decide +kernel
theorem dL_below_6 : decode cL_below 6 = .ok (.ireturn, 1) := by decide +kernel
theorem dL_cell_0 : decode cL_cell 0 = .ok (.iload_n 1, 1) := by decide +kernel
theorem dL_cell_1 : decode cL_cell 1 = .ok (.aload_n 0, 1) := by decide +kernel
theorem dL_cell_2 : decode cL_cell 2 = .ok (.arraylength, 1) := by decide +kernel
theorem dL_cell_3 : decode cL_cell 3 = .ok (.if_icmp .ge 9, 3) := by decide +kernel
theorem dL_cell_6 : decode cL_cell 6 = .ok (.aload_n 0, 1) := by decide +kernel
theorem dL_cell_7 : decode cL_cell 7 = .ok (.iload_n 1, 1) := by decide +kernel
theorem dL_cell_8 : decode cL_cell 8 = .ok (.iaload, 1) := by decide +kernel
theorem dL_cell_9 : decode cL_cell 9 = .ok (.goto 9, 3) := by decide +kernel
theorem dL_cell_12 : decode cL_cell 12 = .ok (.ldc 8, 2) := by decide +kernel
theorem dL_cell_14 : decode cL_cell 14 = .ok (.iload_n 1, 1) := by decide +kernel
theorem dL_cell_15 : decode cL_cell 15 = .ok (.iconst 3, 1) := by decide +kernel
theorem dL_cell_16 : decode cL_cell 16 = .ok (.iadd, 1) := by decide +kernel
theorem dL_cell_17 : decode cL_cell 17 = .ok (.imul, 1) := by decide +kernel
theorem dL_cell_18 : decode cL_cell 18 = .ok (.ireturn, 1) := by decide +kernel
set_option maxRecDepth 20000 in
theorem ggL_act_L_below : GoodIn wsL_act wsL_below := goodIn_r _ [9, 10] (by decide +kernel) (by decide +kernel)
set_option maxRecDepth 20000 in
theorem gL_act_L_below : GoodIn wsL_act (va_wsS RL 15 yL_below wsL_below) := goodIn_app (goodIn_of _ (by decide +kernel)) ggL_act_L_below
set_option maxRecDepth 20000 in
theorem ggL_act_X3_melt : GoodIn wsL_act wsX3_melt := goodIn_ca (goodIn_ca (goodIn_ca (goodIn_r _ [15, 16, 17, 14, 18, 19, 20, 21, 22, 23, 24, 25, 26, 27, 28, 29, 30, 31, 32, 33, 34, 35, 36, 37, 38, 39, 40, 41, 42, 43, 44, 45, 46, 47, 48, 49, 50, 51, 52, 53, 54, 55, 56, 57, 58, 59, 60, 61, 62, 63, 64, 65, 66, 67, 68, 69, 70, 71, 72, 73, 74, 75, 76, 77, 78, 79, 80, 81, 82, 83, 84, 85, 86, 87, 88, 89, 90, 91, 92, 93, 94, 95, 248, 249, 250, 251, 252, 253, 254, 255, 256, 257, 258, 259] (by decide +kernel) (by decide +kernel)) (goodIn_sub (fun _ h => List.mem_cons_of_mem _ (List.mem_append_left _ (List.mem_append_left _ (List.mem_append_right _ h)))) (by decide +kernel))) (goodIn_sub (fun _ h => List.mem_cons_of_mem _ (List.mem_append_left _ (List.mem_append_right _ h))) (by decide +kernel))) (goodIn_sub (fun _ h => List.mem_cons_of_mem _ (List.mem_append_right _ h)) (by decide +kernel))
set_option maxRecDepth 20000 in
theorem gL_act_X3_melt : GoodIn wsL_act (wsV RL 25 RX3 yX3_melt wsX3_melt) := goodIn_app (goodIn_of _ (by decide +kernel)) ggL_act_X3_melt
set_option maxRecDepth 20000 in
theorem ggL_act_X4_deed : GoodIn wsL_act wsX4_deed := goodIn_r _ [100, 101, 102, 103, 104, 99, 105, 4, 106, 107, 108, 109, 73, 74, 75, 243, 244, 245, 246, 247] (by decide +kernel) (by decide +kernel)
set_option maxRecDepth 20000 in
theorem gL_act_X4_deed : GoodIn wsL_act (wsV RL 30 RX4 yX4_deed wsX4_deed) := goodIn_app (goodIn_of _ (by decide +kernel)) ggL_act_X4_deed
set_option maxRecDepth 20000 in
theorem ggL_act_X3_flow : GoodIn wsL_act wsX3_flow := goodIn_ca (goodIn_ca (goodIn_r _ [113, 16, 17, 14, 18, 19, 20, 26, 27, 28, 29, 30, 31, 32, 33, 34, 35, 36, 37, 38, 39, 40, 41, 42, 43, 44, 45, 46, 47, 48, 49, 50, 51, 52, 53, 54, 55, 56, 57, 58, 59, 60, 61, 62, 63, 64, 65, 66, 67, 68, 69, 70, 71, 72, 73, 74, 75, 76, 77, 78, 79, 80, 81, 82, 83, 84, 85, 86, 87, 88, 89, 90, 91, 92, 93, 94, 95, 248, 249, 250, 251, 252, 253, 254, 255, 256, 257, 258, 259] (by decide +kernel) (by decide +kernel)) (goodIn_sub (fun _ h => List.mem_cons_of_mem _ (List.mem_append_left _ (List.mem_append_left _ (List.mem_append_right _ h)))) (by decide +kernel))) (goodIn_sub (fun _ h => List.mem_cons_of_mem _ (List.mem_append_right _ h)) (by decide +kernel))
set_option maxRecDepth 20000 in
theorem gL_act_X3_flow : GoodIn wsL_act (wsV RL 34 RX3 yX3_flow wsX3_flow) := goodIn_app (goodIn_of _ (by decide +kernel)) ggL_act_X3_flow
set_option maxRecDepth 20000 in
theorem ggL_act_X4_end : GoodIn wsL_act wsX4_end := goodIn_r _ [117, 101, 4, 118, 102, 119, 120, 121, 99, 122, 123, 124, 125, 126, 127, 128, 129, 130, 243, 244, 245, 246, 247] (by decide +kernel) (by decide +kernel)
set_option maxRecDepth 20000 in
theorem gL_act_X4_end : GoodIn wsL_act (wsV RL 38 RX4 yX4_end wsX4_end) := goodIn_app (goodIn_of _ (by decide +kernel)) ggL_act_X4_end
set_option maxRecDepth 20000 in
theorem ggL_act_X3_endYear : GoodIn wsL_act wsX3_endYear := goodIn_ca (goodIn_r _ [134, 30, 31, 32, 135, 55, 136, 40, 41, 36, 42, 38, 137, 138, 139, 140, 141, 48, 49, 50, 142, 143, 144, 145, 146, 147, 148, 149, 43, 44, 45, 46, 47, 150, 151, 152, 153, 154, 155, 156, 157, 60, 64, 65, 66, 158, 159, 160, 161, 61, 162, 163, 164, 165, 62, 166, 167, 168, 169, 170, 171, 172, 173, 174, 175, 176, 177, 178, 179, 180, 181, 182, 183, 184, 185, 186, 80, 81, 70, 82, 83, 84, 85, 86, 248, 249, 250, 251, 252, 253, 254, 255, 256, 257, 258, 260, 261, 262, 259] (by decide +kernel) (by decide +kernel)) (goodIn_sub (fun _ h => List.mem_cons_of_mem _ (List.mem_append_right _ h)) (by decide +kernel))
set_option maxRecDepth 20000 in
theorem gL_act_X3_endYear : GoodIn wsL_act (wsV RL 42 RX3 yX3_endYear wsX3_endYear) := goodIn_app (goodIn_of _ (by decide +kernel)) ggL_act_X3_endYear
set_option maxRecDepth 20000 in
theorem ggL_act_X3_compact : GoodIn wsL_act wsX3_compact := goodIn_ca (goodIn_ca (goodIn_r _ [190, 24, 25, 30, 31, 32, 135, 166, 167, 168, 36, 169, 38, 191, 192, 193, 173, 194, 195, 196, 197, 198, 175, 199, 200, 201, 202, 176, 182, 183, 184, 185, 203, 204, 205, 206, 207, 208, 73, 74, 75, 47, 209, 77, 78, 48, 49, 50, 248, 249, 250, 251, 252, 253, 254, 255, 256, 257, 258, 260, 261, 262] (by decide +kernel) (by decide +kernel)) (goodIn_sub (fun _ h => List.mem_cons_of_mem _ (List.mem_append_left _ (List.mem_append_right _ h))) (by decide +kernel))) (goodIn_sub (fun _ h => List.mem_cons_of_mem _ (List.mem_append_right _ h)) (by decide +kernel))
set_option maxRecDepth 20000 in
theorem gL_act_X3_compact : GoodIn wsL_act (wsV RL 49 RX3 yX3_compact wsX3_compact) := goodIn_app (goodIn_of _ (by decide +kernel)) ggL_act_X3_compact
set_option maxRecDepth 20000 in
theorem ggL_act_X3_forge : GoodIn wsL_act wsX3_forge := goodIn_ca (goodIn_ca (goodIn_r _ [213, 19, 20, 24, 25, 32, 214, 215, 216, 14, 217, 166, 167, 168, 36, 169, 38, 218, 151, 152, 153, 43, 44, 45, 46, 47, 48, 49, 50, 219, 155, 156, 157, 60, 64, 65, 66, 21, 22, 23, 220, 163, 164, 165, 62, 221, 222, 223, 224, 248, 249, 250, 251, 252, 253, 254, 255, 256, 257, 258] (by decide +kernel) (by decide +kernel)) (goodIn_sub (fun _ h => List.mem_cons_of_mem _ (List.mem_append_left _ (List.mem_append_left _ (List.mem_append_right _ h)))) (by decide +kernel))) (goodIn_sub (fun _ h => List.mem_cons_of_mem _ (List.mem_append_left _ (List.mem_append_right _ h))) (by decide +kernel))
set_option maxRecDepth 20000 in
theorem gL_act_X3_forge : GoodIn wsL_act (wsV RL 56 RX3 yX3_forge wsX3_forge) := goodIn_app (goodIn_of _ (by decide +kernel)) ggL_act_X3_forge
set_option maxRecDepth 20000 in
theorem ggL_act_X4_without : GoodIn wsL_act wsX4_without := goodIn_r _ [130, 123] (by decide +kernel) (by decide +kernel)
set_option maxRecDepth 20000 in
theorem gL_act_X4_without : GoodIn wsL_act (va_wsS RL 59 yX4_without wsX4_without) := goodIn_app (goodIn_of _ (by decide +kernel)) ggL_act_X4_without
set_option maxRecDepth 20000 in
theorem ggL_act_X3_throwAway : GoodIn wsL_act wsX3_throwAway := goodIn_ca (goodIn_ca (goodIn_r _ [229, 24, 25, 30, 31, 135, 32, 191, 192, 193, 173, 194, 195, 196, 197, 198, 175, 199, 200, 201, 202, 176, 182, 183, 184, 185, 230, 231, 232, 36, 233, 207, 234, 179, 180, 181, 177, 235, 236, 237, 238, 248, 249, 250, 251, 260, 261, 262, 252, 253, 254, 255, 256, 257, 258] (by decide +kernel) (by decide +kernel)) (goodIn_sub (fun _ h => List.mem_cons_of_mem _ (List.mem_append_left _ (List.mem_append_right _ h))) (by decide +kernel))) (goodIn_sub (fun _ h => List.mem_cons_of_mem _ (List.mem_append_right _ h)) (by decide +kernel))
set_option maxRecDepth 20000 in
theorem gL_act_X3_throwAway : GoodIn wsL_act (wsV RL 63 RX3 yX3_throwAway wsX3_throwAway) := goodIn_app (goodIn_of _ (by decide +kernel)) ggL_act_X3_throwAway
set_option maxRecDepth 20000 in
theorem ggL_act_X3_snow : GoodIn wsL_act wsX3_snow := goodIn_ca (goodIn_ca (goodIn_ca (goodIn_r _ [242, 16, 17, 14, 18, 19, 20, 21, 22, 23, 24, 25, 26, 27, 28, 29, 30, 31, 32, 33, 34, 35, 36, 37, 38, 39, 40, 41, 42, 43, 44, 45, 46, 47, 48, 49, 50, 51, 52, 53, 54, 55, 56, 57, 58, 59, 60, 61, 62, 63, 64, 65, 66, 67, 68, 69, 70, 71, 72, 73, 74, 75, 76, 77, 78, 79, 80, 81, 82, 83, 84, 85, 86, 87, 88, 89, 90, 91, 92, 93, 94, 95, 248, 249, 250, 251, 252, 253, 254, 255, 256, 257, 258, 259] (by decide +kernel) (by decide +kernel)) (goodIn_sub (fun _ h => List.mem_cons_of_mem _ (List.mem_append_left _ (List.mem_append_left _ (List.mem_append_right _ h)))) (by decide +kernel))) (goodIn_sub (fun _ h => List.mem_cons_of_mem _ (List.mem_append_left _ (List.mem_append_right _ h))) (by decide +kernel))) (goodIn_sub (fun _ h => List.mem_cons_of_mem _ (List.mem_append_right _ h)) (by decide +kernel))
set_option maxRecDepth 20000 in
theorem gL_act_X3_snow : GoodIn wsL_act (wsV RL 66 RX3 yX3_snow wsX3_snow) := goodIn_app (goodIn_of _ (by decide +kernel)) ggL_act_X3_snow
theorem dL_act_0 : decode cL_act 0 = .ok (.aload_n 1, 1) := by decide +kernel
theorem dL_act_1 : decode cL_act 1 = .ok (.getfield 9, 3) := by decide +kernel
theorem dL_act_4 : decode cL_act 4 = .ok (.arraylength, 1) := by decide +kernel
theorem dL_act_5 : decode cL_act 5 = .ok (.istore_n 3, 1) := by decide +kernel
theorem dL_act_6 : decode cL_act 6 = .ok (.iload_n 2, 1) := by decide +kernel
theorem dL_act_7 : decode cL_act 7 = .ok (.iconst 1, 1) := by decide +kernel
theorem dL_act_8 : decode cL_act 8 = .ok (.ishr, 1) := by decide +kernel
theorem dL_act_9 : decode cL_act 9 = .ok (.bipush 8, 2) := by decide +kernel
theorem dL_act_11 : decode cL_act 11 = .ok (.invokestatic 15, 3) := by decide +kernel
theorem dL_act_14 : decode cL_act 14 = .ok (.istore 4, 2) := by decide +kernel
theorem dL_act_16 : decode cL_act 16 = .ok (.iconst 1, 1) := by decide +kernel
theorem dL_act_17 : decode cL_act 17 = .ok (.iload_n 2, 1) := by decide +kernel
theorem dL_act_18 : decode cL_act 18 = .ok (.iconst 4, 1) := by decide +kernel
theorem dL_act_19 : decode cL_act 19 = .ok (.ishr, 1) := by decide +kernel
theorem dL_act_20 : decode cL_act 20 = .ok (.bipush 99, 2) := by decide +kernel
theorem dL_act_22 : decode cL_act 22 = .ok (.invokestatic 15, 3) := by decide +kernel
theorem dL_act_25 : decode cL_act 25 = .ok (.iadd, 1) := by decide +kernel
theorem dL_act_26 : decode cL_act 26 = .ok (.istore 5, 2) := by decide +kernel
theorem dL_act_28 : decode cL_act 28 = .ok (.iload_n 3, 1) := by decide +kernel
theorem dL_act_29 : decode cL_act 29 = .ok (.bipush 40, 2) := by decide +kernel
theorem dL_act_31 : decode cL_act 31 = .ok (.if_icmp .eq 13, 3) := by decide +kernel
theorem dL_act_34 : decode cL_act 34 = .ok (.aload_n 1, 1) := by decide +kernel
theorem dL_act_35 : decode cL_act 35 = .ok (.getfield 21, 3) := by decide +kernel
theorem dL_act_38 : decode cL_act 38 = .ok (.arraylength, 1) := by decide +kernel
theorem dL_act_39 : decode cL_act 39 = .ok (.bipush 36, 2) := by decide +kernel
theorem dL_act_41 : decode cL_act 41 = .ok (.if_icmp .ne 7, 3) := by decide +kernel
theorem dL_act_44 : decode cL_act 44 = .ok (.iconst 1, 1) := by decide +kernel
theorem dL_act_45 : decode cL_act 45 = .ok (.goto 4, 3) := by decide +kernel
theorem dL_act_48 : decode cL_act 48 = .ok (.iconst 0, 1) := by decide +kernel
theorem dL_act_49 : decode cL_act 49 = .ok (.istore 6, 2) := by decide +kernel
theorem dL_act_51 : decode cL_act 51 = .ok (.iload_n 2, 1) := by decide +kernel
theorem dL_act_52 : decode cL_act 52 = .ok (.bipush 9, 2) := by decide +kernel
theorem dL_act_54 : decode cL_act 54 = .ok (.ishr, 1) := by decide +kernel
theorem dL_act_55 : decode cL_act 55 = .ok (.bipush 20, 2) := by decide +kernel
theorem dL_act_57 : decode cL_act 57 = .ok (.invokestatic 15, 3) := by decide +kernel
theorem dL_act_60 : decode cL_act 60 = .ok (.tableswitch 499 0 12 #[68, 68, 101, 101, 101, 101, 131, 131, 131, 180, 298, 298, 415], 68) := by decide +kernel
theorem dL_act_128 : decode cL_act 128 = .ok (.iload 6, 2) := by decide +kernel
theorem dL_act_130 : decode cL_act 130 = .ok (.ifCond .eq 5, 3) := by decide +kernel
theorem dL_act_133 : decode cL_act 133 = .ok (.iconst 1, 1) := by decide +kernel
theorem dL_act_134 : decode cL_act 134 = .ok (.ireturn, 1) := by decide +kernel
theorem dL_act_135 : decode cL_act 135 = .ok (.aload_n 0, 1) := by decide +kernel
theorem dL_act_136 : decode cL_act 136 = .ok (.iload 4, 2) := by decide +kernel
theorem dL_act_138 : decode cL_act 138 = .ok (.iload 5, 2) := by decide +kernel
theorem dL_act_140 : decode cL_act 140 = .ok (.invokevirtual 25, 3) := by decide +kernel
theorem dL_act_143 : decode cL_act 143 = .ok (.aload_n 1, 1) := by decide +kernel
theorem dL_act_144 : decode cL_act 144 = .ok (.iconst 1, 1) := by decide +kernel
theorem dL_act_145 : decode cL_act 145 = .ok (.iload 4, 2) := by decide +kernel
theorem dL_act_147 : decode cL_act 147 = .ok (.iload 5, 2) := by decide +kernel
theorem dL_act_149 : decode cL_act 149 = .ok (.invokevirtual 30, 3) := by decide +kernel
theorem dL_act_152 : decode cL_act 152 = .ok (.if_icmp .ne 7, 3) := by decide +kernel
theorem dL_act_155 : decode cL_act 155 = .ok (.iconst 1, 1) := by decide +kernel
theorem dL_act_156 : decode cL_act 156 = .ok (.goto 4, 3) := by decide +kernel
theorem dL_act_159 : decode cL_act 159 = .ok (.iconst 0, 1) := by decide +kernel
theorem dL_act_160 : decode cL_act 160 = .ok (.ireturn, 1) := by decide +kernel
theorem dL_act_161 : decode cL_act 161 = .ok (.iload 6, 2) := by decide +kernel
theorem dL_act_163 : decode cL_act 163 = .ok (.ifCond .eq 5, 3) := by decide +kernel
theorem dL_act_166 : decode cL_act 166 = .ok (.iconst 1, 1) := by decide +kernel
theorem dL_act_167 : decode cL_act 167 = .ok (.ireturn, 1) := by decide +kernel
theorem dL_act_168 : decode cL_act 168 = .ok (.aload_n 0, 1) := by decide +kernel
theorem dL_act_169 : decode cL_act 169 = .ok (.iload 4, 2) := by decide +kernel
theorem dL_act_171 : decode cL_act 171 = .ok (.invokevirtual 34, 3) := by decide +kernel
theorem dL_act_174 : decode cL_act 174 = .ok (.aload_n 1, 1) := by decide +kernel
theorem dL_act_175 : decode cL_act 175 = .ok (.iconst 2, 1) := by decide +kernel
theorem dL_act_176 : decode cL_act 176 = .ok (.iload 4, 2) := by decide +kernel
theorem dL_act_178 : decode cL_act 178 = .ok (.iconst 0, 1) := by decide +kernel
theorem dL_act_179 : decode cL_act 179 = .ok (.invokevirtual 30, 3) := by decide +kernel
theorem dL_act_182 : decode cL_act 182 = .ok (.if_icmp .ne 7, 3) := by decide +kernel
theorem dL_act_185 : decode cL_act 185 = .ok (.iconst 1, 1) := by decide +kernel
theorem dL_act_186 : decode cL_act 186 = .ok (.goto 4, 3) := by decide +kernel
theorem dL_act_189 : decode cL_act 189 = .ok (.iconst 0, 1) := by decide +kernel
theorem dL_act_190 : decode cL_act 190 = .ok (.ireturn, 1) := by decide +kernel
theorem dL_act_191 : decode cL_act 191 = .ok (.iload_n 2, 1) := by decide +kernel
theorem dL_act_192 : decode cL_act 192 = .ok (.iconst 2, 1) := by decide +kernel
theorem dL_act_193 : decode cL_act 193 = .ok (.ishr, 1) := by decide +kernel
theorem dL_act_194 : decode cL_act 194 = .ok (.iconst 3, 1) := by decide +kernel
theorem dL_act_195 : decode cL_act 195 = .ok (.invokestatic 15, 3) := by decide +kernel
theorem dL_act_198 : decode cL_act 198 = .ok (.ifCond .ne 7, 3) := by decide +kernel
theorem dL_act_201 : decode cL_act 201 = .ok (.iconst 1, 1) := by decide +kernel
theorem dL_act_202 : decode cL_act 202 = .ok (.goto 4, 3) := by decide +kernel
theorem dL_act_205 : decode cL_act 205 = .ok (.iconst 0, 1) := by decide +kernel
theorem dL_act_206 : decode cL_act 206 = .ok (.istore 7, 2) := by decide +kernel
theorem dL_act_208 : decode cL_act 208 = .ok (.iload_n 3, 1) := by decide +kernel
theorem dL_act_209 : decode cL_act 209 = .ok (.bipush 40, 2) := by decide +kernel
theorem dL_act_211 : decode cL_act 211 = .ok (.if_icmp .ne 5, 3) := by decide +kernel
theorem dL_act_214 : decode cL_act 214 = .ok (.iconst 1, 1) := by decide +kernel
theorem dL_act_215 : decode cL_act 215 = .ok (.ireturn, 1) := by decide +kernel
theorem dL_act_216 : decode cL_act 216 = .ok (.aload_n 1, 1) := by decide +kernel
theorem dL_act_217 : decode cL_act 217 = .ok (.iload 7, 2) := by decide +kernel
theorem dL_act_219 : decode cL_act 219 = .ok (.invokevirtual 38, 3) := by decide +kernel
theorem dL_act_222 : decode cL_act 222 = .ok (.aload_n 0, 1) := by decide +kernel
theorem dL_act_223 : decode cL_act 223 = .ok (.iload 7, 2) := by decide +kernel
theorem dL_act_225 : decode cL_act 225 = .ok (.invokevirtual 42, 3) := by decide +kernel
theorem dL_act_228 : decode cL_act 228 = .ok (.iload_n 3, 1) := by decide +kernel
theorem dL_act_229 : decode cL_act 229 = .ok (.iconst 1, 1) := by decide +kernel
theorem dL_act_230 : decode cL_act 230 = .ok (.iadd, 1) := by decide +kernel
theorem dL_act_231 : decode cL_act 231 = .ok (.if_icmp .ne 7, 3) := by decide +kernel
theorem dL_act_234 : decode cL_act 234 = .ok (.iconst 1, 1) := by decide +kernel
theorem dL_act_235 : decode cL_act 235 = .ok (.goto 4, 3) := by decide +kernel
theorem dL_act_238 : decode cL_act 238 = .ok (.iconst 0, 1) := by decide +kernel
theorem dL_act_239 : decode cL_act 239 = .ok (.ireturn, 1) := by decide +kernel
theorem dL_act_240 : decode cL_act 240 = .ok (.aload_n 1, 1) := by decide +kernel
theorem dL_act_241 : decode cL_act 241 = .ok (.getfield 46, 3) := by decide +kernel
theorem dL_act_244 : decode cL_act 244 = .ok (.arraylength, 1) := by decide +kernel
theorem dL_act_245 : decode cL_act 245 = .ok (.ifCond .eq 13, 3) := by decide +kernel
theorem dL_act_248 : decode cL_act 248 = .ok (.iload_n 2, 1) := by decide +kernel
theorem dL_act_249 : decode cL_act 249 = .ok (.iconst 2, 1) := by decide +kernel
theorem dL_act_250 : decode cL_act 250 = .ok (.ishr, 1) := by decide +kernel
theorem dL_act_251 : decode cL_act 251 = .ok (.iconst 3, 1) := by decide +kernel
theorem dL_act_252 : decode cL_act 252 = .ok (.invokestatic 15, 3) := by decide +kernel
theorem dL_act_255 : decode cL_act 255 = .ok (.ifCond .le 5, 3) := by decide +kernel
theorem dL_act_258 : decode cL_act 258 = .ok (.iconst 1, 1) := by decide +kernel
theorem dL_act_259 : decode cL_act 259 = .ok (.ireturn, 1) := by decide +kernel
theorem dL_act_260 : decode cL_act 260 = .ok (.aload_n 1, 1) := by decide +kernel
theorem dL_act_261 : decode cL_act 261 = .ok (.getfield 46, 3) := by decide +kernel
theorem dL_act_264 : decode cL_act 264 = .ok (.iload_n 2, 1) := by decide +kernel
theorem dL_act_265 : decode cL_act 265 = .ok (.iconst 3, 1) := by decide +kernel
theorem dL_act_266 : decode cL_act 266 = .ok (.ishr, 1) := by decide +kernel
theorem dL_act_267 : decode cL_act 267 = .ok (.aload_n 1, 1) := by decide +kernel
theorem dL_act_268 : decode cL_act 268 = .ok (.getfield 46, 3) := by decide +kernel
theorem dL_act_271 : decode cL_act 271 = .ok (.arraylength, 1) := by decide +kernel
theorem dL_act_272 : decode cL_act 272 = .ok (.invokestatic 15, 3) := by decide +kernel
theorem dL_act_275 : decode cL_act 275 = .ok (.aaload, 1) := by decide +kernel
theorem dL_act_276 : decode cL_act 276 = .ok (.iconst 0, 1) := by decide +kernel
theorem dL_act_277 : decode cL_act 277 = .ok (.iaload, 1) := by decide +kernel
theorem dL_act_278 : decode cL_act 278 = .ok (.istore 8, 2) := by decide +kernel
theorem dL_act_280 : decode cL_act 280 = .ok (.iconst 0, 1) := by decide +kernel
theorem dL_act_281 : decode cL_act 281 = .ok (.istore 9, 2) := by decide +kernel
theorem dL_act_283 : decode cL_act 283 = .ok (.iconst 0, 1) := by decide +kernel
theorem dL_act_284 : decode cL_act 284 = .ok (.istore 10, 2) := by decide +kernel
theorem dL_act_286 : decode cL_act 286 = .ok (.iload 10, 2) := by decide +kernel
theorem dL_act_288 : decode cL_act 288 = .ok (.iload 8, 2) := by decide +kernel
theorem dL_act_290 : decode cL_act 290 = .ok (.if_icmp .ge 51, 3) := by decide +kernel
theorem dL_act_293 : decode cL_act 293 = .ok (.iload 9, 2) := by decide +kernel
theorem dL_act_295 : decode cL_act 295 = .ok (.iconst 1, 1) := by decide +kernel
theorem dL_act_296 : decode cL_act 296 = .ok (.aload_n 1, 1) := by decide +kernel
theorem dL_act_297 : decode cL_act 297 = .ok (.getfield 9, 3) := by decide +kernel
theorem dL_act_300 : decode cL_act 300 = .ok (.iload 10, 2) := by decide +kernel
theorem dL_act_302 : decode cL_act 302 = .ok (.aaload, 1) := by decide +kernel
theorem dL_act_303 : decode cL_act 303 = .ok (.iconst 1, 1) := by decide +kernel
theorem dL_act_304 : decode cL_act 304 = .ok (.iaload, 1) := by decide +kernel
theorem dL_act_305 : decode cL_act 305 = .ok (.isub, 1) := by decide +kernel
theorem dL_act_306 : decode cL_act 306 = .ok (.iadd, 1) := by decide +kernel
theorem dL_act_307 : decode cL_act 307 = .ok (.istore 9, 2) := by decide +kernel
theorem dL_act_309 : decode cL_act 309 = .ok (.aload_n 1, 1) := by decide +kernel
theorem dL_act_310 : decode cL_act 310 = .ok (.getfield 9, 3) := by decide +kernel
theorem dL_act_313 : decode cL_act 313 = .ok (.iload 10, 2) := by decide +kernel
theorem dL_act_315 : decode cL_act 315 = .ok (.iconst 2, 1) := by decide +kernel
theorem dL_act_316 : decode cL_act 316 = .ok (.newarray .int, 2) := by decide +kernel
theorem dL_act_318 : decode cL_act 318 = .ok (.dup, 1) := by decide +kernel
theorem dL_act_319 : decode cL_act 319 = .ok (.iconst 0, 1) := by decide +kernel
theorem dL_act_320 : decode cL_act 320 = .ok (.aload_n 1, 1) := by decide +kernel
theorem dL_act_321 : decode cL_act 321 = .ok (.getfield 9, 3) := by decide +kernel
theorem dL_act_324 : decode cL_act 324 = .ok (.iload 10, 2) := by decide +kernel
theorem dL_act_326 : decode cL_act 326 = .ok (.aaload, 1) := by decide +kernel
theorem dL_act_327 : decode cL_act 327 = .ok (.iconst 0, 1) := by decide +kernel
theorem dL_act_328 : decode cL_act 328 = .ok (.iaload, 1) := by decide +kernel
theorem dL_act_329 : decode cL_act 329 = .ok (.iastore, 1) := by decide +kernel
theorem dL_act_330 : decode cL_act 330 = .ok (.dup, 1) := by decide +kernel
theorem dL_act_331 : decode cL_act 331 = .ok (.iconst 1, 1) := by decide +kernel
theorem dL_act_332 : decode cL_act 332 = .ok (.iconst 1, 1) := by decide +kernel
theorem dL_act_333 : decode cL_act 333 = .ok (.iastore, 1) := by decide +kernel
theorem dL_act_334 : decode cL_act 334 = .ok (.aastore, 1) := by decide +kernel
theorem dL_act_335 : decode cL_act 335 = .ok (.iinc 10 1, 3) := by decide +kernel
theorem dL_act_338 : decode cL_act 338 = .ok (.goto (-52), 3) := by decide +kernel
theorem dL_act_341 : decode cL_act 341 = .ok (.aload_n 0, 1) := by decide +kernel
theorem dL_act_342 : decode cL_act 342 = .ok (.iload 8, 2) := by decide +kernel
theorem dL_act_344 : decode cL_act 344 = .ok (.invokevirtual 49, 3) := by decide +kernel
theorem dL_act_347 : decode cL_act 347 = .ok (.iload 9, 2) := by decide +kernel
theorem dL_act_349 : decode cL_act 349 = .ok (.if_icmp .ne 7, 3) := by decide +kernel
theorem dL_act_352 : decode cL_act 352 = .ok (.iconst 1, 1) := by decide +kernel
theorem dL_act_353 : decode cL_act 353 = .ok (.goto 4, 3) := by decide +kernel
theorem dL_act_356 : decode cL_act 356 = .ok (.iconst 0, 1) := by decide +kernel
theorem dL_act_357 : decode cL_act 357 = .ok (.ireturn, 1) := by decide +kernel
theorem dL_act_358 : decode cL_act 358 = .ok (.iload_n 3, 1) := by decide +kernel
theorem dL_act_359 : decode cL_act 359 = .ok (.ifCond .ne 5, 3) := by decide +kernel
theorem dL_act_362 : decode cL_act 362 = .ok (.iconst 1, 1) := by decide +kernel
theorem dL_act_363 : decode cL_act 363 = .ok (.ireturn, 1) := by decide +kernel
theorem dL_act_364 : decode cL_act 364 = .ok (.iload_n 2, 1) := by decide +kernel
theorem dL_act_365 : decode cL_act 365 = .ok (.iconst 1, 1) := by decide +kernel
theorem dL_act_366 : decode cL_act 366 = .ok (.ishr, 1) := by decide +kernel
theorem dL_act_367 : decode cL_act 367 = .ok (.iload_n 3, 1) := by decide +kernel
theorem dL_act_368 : decode cL_act 368 = .ok (.invokestatic 15, 3) := by decide +kernel
theorem dL_act_371 : decode cL_act 371 = .ok (.istore 10, 2) := by decide +kernel
theorem dL_act_373 : decode cL_act 373 = .ok (.aload_n 1, 1) := by decide +kernel
theorem dL_act_374 : decode cL_act 374 = .ok (.getfield 9, 3) := by decide +kernel
theorem dL_act_377 : decode cL_act 377 = .ok (.iload 10, 2) := by decide +kernel
theorem dL_act_379 : decode cL_act 379 = .ok (.aaload, 1) := by decide +kernel
theorem dL_act_380 : decode cL_act 380 = .ok (.astore 11, 2) := by decide +kernel
theorem dL_act_382 : decode cL_act 382 = .ok (.aload 11, 2) := by decide +kernel
theorem dL_act_384 : decode cL_act 384 = .ok (.arraylength, 1) := by decide +kernel
theorem dL_act_385 : decode cL_act 385 = .ok (.iconst 2, 1) := by decide +kernel
theorem dL_act_386 : decode cL_act 386 = .ok (.if_icmp .ne 5, 3) := by decide +kernel
theorem dL_act_389 : decode cL_act 389 = .ok (.iconst 1, 1) := by decide +kernel
theorem dL_act_390 : decode cL_act 390 = .ok (.ireturn, 1) := by decide +kernel
theorem dL_act_391 : decode cL_act 391 = .ok (.iload_n 2, 1) := by decide +kernel
theorem dL_act_392 : decode cL_act 392 = .ok (.iconst 4, 1) := by decide +kernel
theorem dL_act_393 : decode cL_act 393 = .ok (.ishr, 1) := by decide +kernel
theorem dL_act_394 : decode cL_act 394 = .ok (.aload 11, 2) := by decide +kernel
theorem dL_act_396 : decode cL_act 396 = .ok (.arraylength, 1) := by decide +kernel
theorem dL_act_397 : decode cL_act 397 = .ok (.iconst 2, 1) := by decide +kernel
theorem dL_act_398 : decode cL_act 398 = .ok (.isub, 1) := by decide +kernel
theorem dL_act_399 : decode cL_act 399 = .ok (.iconst 3, 1) := by decide +kernel
theorem dL_act_400 : decode cL_act 400 = .ok (.idiv, 1) := by decide +kernel
theorem dL_act_401 : decode cL_act 401 = .ok (.invokestatic 15, 3) := by decide +kernel
theorem dL_act_404 : decode cL_act 404 = .ok (.istore 12, 2) := by decide +kernel
theorem dL_act_406 : decode cL_act 406 = .ok (.aload 11, 2) := by decide +kernel
theorem dL_act_408 : decode cL_act 408 = .ok (.iconst 2, 1) := by decide +kernel
theorem dL_act_409 : decode cL_act 409 = .ok (.iconst 3, 1) := by decide +kernel
theorem dL_act_410 : decode cL_act 410 = .ok (.iload 12, 2) := by decide +kernel
theorem dL_act_412 : decode cL_act 412 = .ok (.imul, 1) := by decide +kernel
theorem dL_act_413 : decode cL_act 413 = .ok (.iadd, 1) := by decide +kernel
theorem dL_act_414 : decode cL_act 414 = .ok (.iaload, 1) := by decide +kernel
theorem dL_act_415 : decode cL_act 415 = .ok (.iconst 2, 1) := by decide +kernel
theorem dL_act_416 : decode cL_act 416 = .ok (.if_icmp .ne 7, 3) := by decide +kernel
theorem dL_act_419 : decode cL_act 419 = .ok (.iconst 0, 1) := by decide +kernel
theorem dL_act_420 : decode cL_act 420 = .ok (.goto 5, 3) := by decide +kernel
theorem dL_act_423 : decode cL_act 423 = .ok (.iload 5, 2) := by decide +kernel
theorem dL_act_425 : decode cL_act 425 = .ok (.istore 13, 2) := by decide +kernel
theorem dL_act_427 : decode cL_act 427 = .ok (.aload 11, 2) := by decide +kernel
theorem dL_act_429 : decode cL_act 429 = .ok (.iconst 4, 1) := by decide +kernel
theorem dL_act_430 : decode cL_act 430 = .ok (.iconst 3, 1) := by decide +kernel
theorem dL_act_431 : decode cL_act 431 = .ok (.iload 12, 2) := by decide +kernel
theorem dL_act_433 : decode cL_act 433 = .ok (.imul, 1) := by decide +kernel
theorem dL_act_434 : decode cL_act 434 = .ok (.iadd, 1) := by decide +kernel
theorem dL_act_435 : decode cL_act 435 = .ok (.iaload, 1) := by decide +kernel
theorem dL_act_436 : decode cL_act 436 = .ok (.istore 14, 2) := by decide +kernel
theorem dL_act_438 : decode cL_act 438 = .ok (.aload 11, 2) := by decide +kernel
theorem dL_act_440 : decode cL_act 440 = .ok (.iconst 4, 1) := by decide +kernel
theorem dL_act_441 : decode cL_act 441 = .ok (.iconst 3, 1) := by decide +kernel
theorem dL_act_442 : decode cL_act 442 = .ok (.iload 12, 2) := by decide +kernel
theorem dL_act_444 : decode cL_act 444 = .ok (.imul, 1) := by decide +kernel
theorem dL_act_445 : decode cL_act 445 = .ok (.iadd, 1) := by decide +kernel
theorem dL_act_446 : decode cL_act 446 = .ok (.iload 13, 2) := by decide +kernel
theorem dL_act_448 : decode cL_act 448 = .ok (.iastore, 1) := by decide +kernel
theorem dL_act_449 : decode cL_act 449 = .ok (.aload_n 1, 1) := by decide +kernel
theorem dL_act_450 : decode cL_act 450 = .ok (.iconst 1, 1) := by decide +kernel
theorem dL_act_451 : decode cL_act 451 = .ok (.putfield 52, 3) := by decide +kernel
theorem dL_act_454 : decode cL_act 454 = .ok (.aload_n 0, 1) := by decide +kernel
theorem dL_act_455 : decode cL_act 455 = .ok (.iload 10, 2) := by decide +kernel
theorem dL_act_457 : decode cL_act 457 = .ok (.iload 12, 2) := by decide +kernel
theorem dL_act_459 : decode cL_act 459 = .ok (.iload 13, 2) := by decide +kernel
theorem dL_act_461 : decode cL_act 461 = .ok (.invokevirtual 56, 3) := by decide +kernel
theorem dL_act_464 : decode cL_act 464 = .ok (.iload 14, 2) := by decide +kernel
theorem dL_act_466 : decode cL_act 466 = .ok (.if_icmp .ne 7, 3) := by decide +kernel
theorem dL_act_469 : decode cL_act 469 = .ok (.iconst 1, 1) := by decide +kernel
theorem dL_act_470 : decode cL_act 470 = .ok (.goto 4, 3) := by decide +kernel
theorem dL_act_473 : decode cL_act 473 = .ok (.iconst 0, 1) := by decide +kernel
theorem dL_act_474 : decode cL_act 474 = .ok (.ireturn, 1) := by decide +kernel
theorem dL_act_475 : decode cL_act 475 = .ok (.aload_n 1, 1) := by decide +kernel
theorem dL_act_476 : decode cL_act 476 = .ok (.getfield 46, 3) := by decide +kernel
theorem dL_act_479 : decode cL_act 479 = .ok (.arraylength, 1) := by decide +kernel
theorem dL_act_480 : decode cL_act 480 = .ok (.ifCond .ne 5, 3) := by decide +kernel
theorem dL_act_483 : decode cL_act 483 = .ok (.iconst 1, 1) := by decide +kernel
theorem dL_act_484 : decode cL_act 484 = .ok (.ireturn, 1) := by decide +kernel
theorem dL_act_485 : decode cL_act 485 = .ok (.iload_n 2, 1) := by decide +kernel
theorem dL_act_486 : decode cL_act 486 = .ok (.iconst 1, 1) := by decide +kernel
theorem dL_act_487 : decode cL_act 487 = .ok (.ishr, 1) := by decide +kernel
theorem dL_act_488 : decode cL_act 488 = .ok (.aload_n 1, 1) := by decide +kernel
theorem dL_act_489 : decode cL_act 489 = .ok (.getfield 46, 3) := by decide +kernel
theorem dL_act_492 : decode cL_act 492 = .ok (.arraylength, 1) := by decide +kernel
theorem dL_act_493 : decode cL_act 493 = .ok (.invokestatic 15, 3) := by decide +kernel
theorem dL_act_496 : decode cL_act 496 = .ok (.istore 15, 2) := by decide +kernel
theorem dL_act_498 : decode cL_act 498 = .ok (.aload_n 1, 1) := by decide +kernel
theorem dL_act_499 : decode cL_act 499 = .ok (.getfield 46, 3) := by decide +kernel
theorem dL_act_502 : decode cL_act 502 = .ok (.iload 15, 2) := by decide +kernel
theorem dL_act_504 : decode cL_act 504 = .ok (.aaload, 1) := by decide +kernel
theorem dL_act_505 : decode cL_act 505 = .ok (.iconst 0, 1) := by decide +kernel
theorem dL_act_506 : decode cL_act 506 = .ok (.iaload, 1) := by decide +kernel
theorem dL_act_507 : decode cL_act 507 = .ok (.istore 16, 2) := by decide +kernel
theorem dL_act_509 : decode cL_act 509 = .ok (.aload_n 1, 1) := by decide +kernel
theorem dL_act_510 : decode cL_act 510 = .ok (.getfield 9, 3) := by decide +kernel
theorem dL_act_513 : decode cL_act 513 = .ok (.iload 16, 2) := by decide +kernel
theorem dL_act_515 : decode cL_act 515 = .ok (.iconst 1, 1) := by decide +kernel
theorem dL_act_516 : decode cL_act 516 = .ok (.isub, 1) := by decide +kernel
theorem dL_act_517 : decode cL_act 517 = .ok (.aaload, 1) := by decide +kernel
theorem dL_act_518 : decode cL_act 518 = .ok (.iconst 1, 1) := by decide +kernel
theorem dL_act_519 : decode cL_act 519 = .ok (.iaload, 1) := by decide +kernel
theorem dL_act_520 : decode cL_act 520 = .ok (.iconst 1, 1) := by decide +kernel
theorem dL_act_521 : decode cL_act 521 = .ok (.if_icmp .ne 5, 3) := by decide +kernel
theorem dL_act_524 : decode cL_act 524 = .ok (.iconst 1, 1) := by decide +kernel
theorem dL_act_525 : decode cL_act 525 = .ok (.ireturn, 1) := by decide +kernel
theorem dL_act_526 : decode cL_act 526 = .ok (.aload_n 1, 1) := by decide +kernel
theorem dL_act_527 : decode cL_act 527 = .ok (.aload_n 1, 1) := by decide +kernel
theorem dL_act_528 : decode cL_act 528 = .ok (.getfield 46, 3) := by decide +kernel
theorem dL_act_531 : decode cL_act 531 = .ok (.iload 15, 2) := by decide +kernel
theorem dL_act_533 : decode cL_act 533 = .ok (.invokestatic 59, 3) := by decide +kernel
theorem dL_act_536 : decode cL_act 536 = .ok (.putfield 46, 3) := by decide +kernel
theorem dL_act_539 : decode cL_act 539 = .ok (.aload_n 0, 1) := by decide +kernel
theorem dL_act_540 : decode cL_act 540 = .ok (.iload 16, 2) := by decide +kernel
theorem dL_act_542 : decode cL_act 542 = .ok (.invokevirtual 63, 3) := by decide +kernel
theorem dL_act_545 : decode cL_act 545 = .ok (.aload_n 1, 1) := by decide +kernel
theorem dL_act_546 : decode cL_act 546 = .ok (.getfield 46, 3) := by decide +kernel
theorem dL_act_549 : decode cL_act 549 = .ok (.arraylength, 1) := by decide +kernel
theorem dL_act_550 : decode cL_act 550 = .ok (.if_icmp .ne 7, 3) := by decide +kernel
theorem dL_act_553 : decode cL_act 553 = .ok (.iconst 1, 1) := by decide +kernel
theorem dL_act_554 : decode cL_act 554 = .ok (.goto 4, 3) := by decide +kernel
theorem dL_act_557 : decode cL_act 557 = .ok (.iconst 0, 1) := by decide +kernel
theorem dL_act_558 : decode cL_act 558 = .ok (.ireturn, 1) := by decide +kernel
theorem dL_act_559 : decode cL_act 559 = .ok (.iload 6, 2) := by decide +kernel
theorem dL_act_561 : decode cL_act 561 = .ok (.ifCond .eq 5, 3) := by decide +kernel
theorem dL_act_564 : decode cL_act 564 = .ok (.iconst 1, 1) := by decide +kernel
theorem dL_act_565 : decode cL_act 565 = .ok (.ireturn, 1) := by decide +kernel
theorem dL_act_566 : decode cL_act 566 = .ok (.aload_n 0, 1) := by decide +kernel
theorem dL_act_567 : decode cL_act 567 = .ok (.iload 4, 2) := by decide +kernel
theorem dL_act_569 : decode cL_act 569 = .ok (.iload 5, 2) := by decide +kernel
theorem dL_act_571 : decode cL_act 571 = .ok (.invokevirtual 66, 3) := by decide +kernel
theorem dL_act_574 : decode cL_act 574 = .ok (.aload_n 1, 1) := by decide +kernel
theorem dL_act_575 : decode cL_act 575 = .ok (.iconst 0, 1) := by decide +kernel
theorem dL_act_576 : decode cL_act 576 = .ok (.iload 4, 2) := by decide +kernel
theorem dL_act_578 : decode cL_act 578 = .ok (.iload 5, 2) := by decide +kernel
theorem dL_act_580 : decode cL_act 580 = .ok (.invokevirtual 30, 3) := by decide +kernel
theorem dL_act_583 : decode cL_act 583 = .ok (.if_icmp .ne 7, 3) := by decide +kernel
theorem dL_act_586 : decode cL_act 586 = .ok (.iconst 1, 1) := by decide +kernel
theorem dL_act_587 : decode cL_act 587 = .ok (.goto 4, 3) := by decide +kernel
theorem dL_act_590 : decode cL_act 590 = .ok (.iconst 0, 1) := by decide +kernel
theorem dL_act_591 : decode cL_act 591 = .ok (.ireturn, 1) := by decide +kernel
