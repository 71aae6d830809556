set_option maxRecDepth 20000 in
theorem ggL_law_X7_init : GoodIn wsL_law wsX7_init := by sorry
set_option maxRecDepth 20000 in
theorem gL_law_X7_init : GoodIn wsL_law (wsX7_init) := by sorry
set_option maxRecDepth 20000 in
theorem ggL_law_X8_init : GoodIn wsL_law wsX8_init := by sorry
set_option maxRecDepth 20000 in
theorem gL_law_X8_init : GoodIn wsL_law (wsX8_init) := by sorry
set_option maxRecDepth 20000 in
theorem ggL_law_X7_prime : GoodIn wsL_law wsX7_prime := by sorry
set_option maxRecDepth 20000 in
theorem gL_law_X7_prime : GoodIn wsL_law (wsV RL 13 RX7 yX7_prime wsX7_prime) := by sorry
set_option maxRecDepth 20000 in
theorem ggL_law_X8_prime : GoodIn wsL_law wsX8_prime := by sorry
set_option maxRecDepth 20000 in
theorem gL_law_X8_prime : GoodIn wsL_law (wsV RL 17 RX8 yX8_prime wsX8_prime) := by sorry
set_option maxRecDepth 20000 in
theorem ggL_law_X7_columns : GoodIn wsL_law wsX7_columns := by sorry
set_option maxRecDepth 20000 in
theorem gL_law_X7_columns : GoodIn wsL_law (wsV RL 18 RX7 yX7_columns wsX7_columns) := by sorry
set_option maxRecDepth 20000 in
theorem ggL_law_X8_columns : GoodIn wsL_law wsX8_columns := by sorry
set_option maxRecDepth 20000 in
theorem gL_law_X8_columns : GoodIn wsL_law (wsV RL 21 RX8 yX8_columns wsX8_columns) := by sorry
set_option maxRecDepth 20000 in
theorem ggL_law_X7_row : GoodIn wsL_law wsX7_row := by sorry
set_option maxRecDepth 20000 in
theorem gL_law_X7_row : GoodIn wsL_law (wsV RL 22 RX7 yX7_row wsX7_row) := by sorry
set_option maxRecDepth 20000 in
theorem ggL_law_X8_row : GoodIn wsL_law wsX8_row := by sorry
set_option maxRecDepth 20000 in
theorem gL_law_X8_row : GoodIn wsL_law (wsV RL 26 RX8 yX8_row wsX8_row) := by sorry
set_option maxRecDepth 20000 in
theorem ggL_law_X7_sets : GoodIn wsL_law wsX7_sets := by sorry
set_option maxRecDepth 20000 in
theorem gL_law_X7_sets : GoodIn wsL_law (wsV RL 27 RX7 yX7_sets wsX7_sets) := by sorry
set_option maxRecDepth 20000 in
theorem ggL_law_X8_sets : GoodIn wsL_law wsX8_sets := by sorry
set_option maxRecDepth 20000 in
theorem gL_law_X8_sets : GoodIn wsL_law (wsV RL 31 RX8 yX8_sets wsX8_sets) := by sorry
set_option maxRecDepth 20000 in
theorem ggL_law_X7_drops : GoodIn wsL_law wsX7_drops := by sorry
set_option maxRecDepth 20000 in
theorem gL_law_X7_drops : GoodIn wsL_law (wsV RL 32 RX7 yX7_drops wsX7_drops) := by sorry
set_option maxRecDepth 20000 in
theorem ggL_law_X8_drops : GoodIn wsL_law wsX8_drops := by sorry
set_option maxRecDepth 20000 in
theorem gL_law_X8_drops : GoodIn wsL_law (wsV RL 35 RX8 yX8_drops wsX8_drops) := by sorry
set_option maxRecDepth 20000 in
theorem ggL_law_X7_steps : GoodIn wsL_law wsX7_steps := by sorry
set_option maxRecDepth 20000 in
theorem gL_law_X7_steps : GoodIn wsL_law (wsV RL 36 RX7 yX7_steps wsX7_steps) := by sorry
set_option maxRecDepth 20000 in
theorem ggL_law_X8_steps : GoodIn wsL_law wsX8_steps := by sorry
set_option maxRecDepth 20000 in
theorem gL_law_X8_steps : GoodIn wsL_law (wsV RL 39 RX8 yX8_steps wsX8_steps) := by sorry
set_option maxRecDepth 20000 in
theorem ggL_law_X7_monic : GoodIn wsL_law wsX7_monic := by sorry
set_option maxRecDepth 20000 in
theorem gL_law_X7_monic : GoodIn wsL_law (wsV RL 40 RX7 yX7_monic wsX7_monic) := by sorry
set_option maxRecDepth 20000 in
theorem ggL_law_X8_monic : GoodIn wsL_law wsX8_monic := by sorry
set_option maxRecDepth 20000 in
theorem gL_law_X8_monic : GoodIn wsL_law (wsV RL 43 RX8 yX8_monic wsX8_monic) := by sorry
set_option maxRecDepth 20000 in
theorem ggL_law_X7_of : GoodIn wsL_law wsX7_of := by sorry
set_option maxRecDepth 20000 in
theorem gL_law_X7_of : GoodIn wsL_law (wsV RL 44 RX7 yX7_of wsX7_of) := by sorry
set_option maxRecDepth 20000 in
theorem ggL_law_X8_of : GoodIn wsL_law wsX8_of := by sorry
set_option maxRecDepth 20000 in
theorem gL_law_X8_of : GoodIn wsL_law (wsV RL 48 RX8 yX8_of wsX8_of) := by sorry
set_option maxRecDepth 20000 in
theorem ggL_law_X7_about : GoodIn wsL_law wsX7_about := by sorry
set_option maxRecDepth 20000 in
theorem gL_law_X7_about : GoodIn wsL_law (wsV RL 49 RX7 yX7_about wsX7_about) := by sorry
set_option maxRecDepth 20000 in
theorem ggL_law_X8_about : GoodIn wsL_law wsX8_about := by sorry
set_option maxRecDepth 20000 in
theorem gL_law_X8_about : GoodIn wsL_law (wsV RL 53 RX8 yX8_about wsX8_about) := by sorry
set_option maxRecDepth 20000 in
theorem ggL_law_X7_next : GoodIn wsL_law wsX7_next := by sorry
set_option maxRecDepth 20000 in
theorem gL_law_X7_next : GoodIn wsL_law (wsV RL 54 RX7 yX7_next wsX7_next) := by sorry
set_option maxRecDepth 20000 in
theorem ggL_law_X8_next : GoodIn wsL_law wsX8_next := by sorry
set_option maxRecDepth 20000 in
theorem gL_law_X8_next : GoodIn wsL_law (wsV RL 57 RX8 yX8_next wsX8_next) := by sorry
set_option maxRecDepth 20000 in
theorem ggL_law_X7_rank : GoodIn wsL_law wsX7_rank := by sorry
set_option maxRecDepth 20000 in
theorem gL_law_X7_rank : GoodIn wsL_law (wsV RL 58 RX7 yX7_rank wsX7_rank) := by sorry
set_option maxRecDepth 20000 in
theorem ggL_law_X8_rank : GoodIn wsL_law wsX8_rank := by sorry
set_option maxRecDepth 20000 in
theorem gL_law_X8_rank : GoodIn wsL_law (wsV RL 61 RX8 yX8_rank wsX8_rank) := by sorry
set_option maxRecDepth 20000 in
theorem ggL_law_X7_form : GoodIn wsL_law wsX7_form := by sorry
set_option maxRecDepth 20000 in
theorem gL_law_X7_form : GoodIn wsL_law (wsV RL 62 RX7 yX7_form wsX7_form) := by sorry
set_option maxRecDepth 20000 in
theorem ggL_law_X8_form : GoodIn wsL_law wsX8_form := by sorry
set_option maxRecDepth 20000 in
theorem gL_law_X8_form : GoodIn wsL_law (wsV RL 65 RX8 yX8_form wsX8_form) := by sorry
set_option maxRecDepth 20000 in
theorem ggL_law_X7_least : GoodIn wsL_law wsX7_least := by sorry
set_option maxRecDepth 20000 in
theorem gL_law_X7_least : GoodIn wsL_law (wsV RL 66 RX7 yX7_least wsX7_least) := by sorry
set_option maxRecDepth 20000 in
theorem ggL_law_X8_least : GoodIn wsL_law wsX8_least := by sorry
set_option maxRecDepth 20000 in
theorem gL_law_X8_least : GoodIn wsL_law (wsV RL 69 RX8 yX8_least wsX8_least) := by sorry
set_option maxRecDepth 20000 in
theorem ggL_law_X7_same : GoodIn wsL_law wsX7_same := by sorry
set_option maxRecDepth 20000 in
theorem gL_law_X7_same : GoodIn wsL_law (wsV RL 70 RX7 yX7_same wsX7_same) := by sorry
set_option maxRecDepth 20000 in
theorem ggL_law_X8_same : GoodIn wsL_law wsX8_same := by sorry
set_option maxRecDepth 20000 in
theorem gL_law_X8_same : GoodIn wsL_law (wsV RL 73 RX8 yX8_same wsX8_same) := by sorry
set_option maxRecDepth 20000 in
theorem ggL_law_X7_rest : GoodIn wsL_law wsX7_rest := by sorry
set_option maxRecDepth 20000 in
theorem gL_law_X7_rest : GoodIn wsL_law (wsV RL 74 RX7 yX7_rest wsX7_rest) := by sorry
set_option maxRecDepth 20000 in
theorem ggL_law_X8_rest : GoodIn wsL_law wsX8_rest := by sorry
set_option maxRecDepth 20000 in
theorem gL_law_X8_rest : GoodIn wsL_law (wsV RL 77 RX8 yX8_rest wsX8_rest) := by sorry
set_option maxRecDepth 20000 in
theorem ggL_law_X7_made : GoodIn wsL_law wsX7_made := by sorry
set_option maxRecDepth 20000 in
theorem gL_law_X7_made : GoodIn wsL_law (wsV RL 78 RX7 yX7_made wsX7_made) := by sorry
set_option maxRecDepth 20000 in
theorem ggL_law_X8_made : GoodIn wsL_law wsX8_made := by sorry
set_option maxRecDepth 20000 in
theorem gL_law_X8_made : GoodIn wsL_law (wsV RL 81 RX8 yX8_made wsX8_made) := by sorry
set_option maxRecDepth 20000 in
theorem ggL_law_X7_factor : GoodIn wsL_law wsX7_factor := by sorry
set_option maxRecDepth 20000 in
theorem gL_law_X7_factor : GoodIn wsL_law (wsV RL 82 RX7 yX7_factor wsX7_factor) := by sorry
set_option maxRecDepth 20000 in
theorem ggL_law_X8_factor : GoodIn wsL_law wsX8_factor := by sorry
set_option maxRecDepth 20000 in
theorem gL_law_X8_factor : GoodIn wsL_law (wsV RL 85 RX8 yX8_factor wsX8_factor) := by sorry
set_option maxRecDepth 20000 in
theorem ggL_law_X7_det : GoodIn wsL_law wsX7_det := by sorry
set_option maxRecDepth 20000 in
theorem gL_law_X7_det : GoodIn wsL_law (wsV RL 86 RX7 yX7_det wsX7_det) := by sorry
set_option maxRecDepth 20000 in
theorem ggL_law_X8_det : GoodIn wsL_law wsX8_det := by sorry
set_option maxRecDepth 20000 in
theorem gL_law_X8_det : GoodIn wsL_law (wsV RL 89 RX8 yX8_det wsX8_det) := by sorry
set_option maxRecDepth 20000 in
theorem ggL_law_X7_quotient : GoodIn wsL_law wsX7_quotient := by sorry
set_option maxRecDepth 20000 in
theorem gL_law_X7_quotient : GoodIn wsL_law (wsV RL 90 RX7 yX7_quotient wsX7_quotient) := by sorry
set_option maxRecDepth 20000 in
theorem ggL_law_X8_quotient : GoodIn wsL_law wsX8_quotient := by sorry
set_option maxRecDepth 20000 in
theorem gL_law_X8_quotient : GoodIn wsL_law (wsV RL 94 RX8 yX8_quotient wsX8_quotient) := by sorry
set_option maxRecDepth 20000 in
theorem ggL_law_X7_type : GoodIn wsL_law wsX7_type := by sorry
set_option maxRecDepth 20000 in
theorem gL_law_X7_type : GoodIn wsL_law (wsV RL 95 RX7 yX7_type wsX7_type) := by sorry
set_option maxRecDepth 20000 in
theorem ggL_law_X8_type : GoodIn wsL_law wsX8_type := by sorry
set_option maxRecDepth 20000 in
theorem gL_law_X8_type : GoodIn wsL_law (wsV RL 98 RX8 yX8_type wsX8_type) := by sorry
set_option maxRecDepth 20000 in
theorem ggL_law_X7_clear : GoodIn wsL_law wsX7_clear := by sorry
set_option maxRecDepth 20000 in
theorem gL_law_X7_clear : GoodIn wsL_law (wsV RL 99 RX7 yX7_clear wsX7_clear) := by sorry
set_option maxRecDepth 20000 in
theorem ggL_law_X8_clear : GoodIn wsL_law wsX8_clear := by sorry
set_option maxRecDepth 20000 in
theorem gL_law_X8_clear : GoodIn wsL_law (wsV RL 102 RX8 yX8_clear wsX8_clear) := by sorry
set_option maxRecDepth 20000 in
theorem ggL_law_X7_reads : GoodIn wsL_law wsX7_reads := by sorry
set_option maxRecDepth 20000 in
theorem gL_law_X7_reads : GoodIn wsL_law (wsV RL 103 RX7 yX7_reads wsX7_reads) := by sorry
set_option maxRecDepth 20000 in
theorem ggL_law_X8_reads : GoodIn wsL_law wsX8_reads := by sorry
set_option maxRecDepth 20000 in
theorem gL_law_X8_reads : GoodIn wsL_law (wsV RL 106 RX8 yX8_reads wsX8_reads) := by sorry
set_option maxRecDepth 20000 in
theorem ggL_law_X7_why : GoodIn wsL_law wsX7_why := by sorry
set_option maxRecDepth 20000 in
theorem gL_law_X7_why : GoodIn wsL_law (wsV RL 107 RX7 yX7_why wsX7_why) := by sorry
set_option maxRecDepth 20000 in
theorem ggL_law_X8_why : GoodIn wsL_law wsX8_why := by sorry
set_option maxRecDepth 20000 in
theorem gL_law_X8_why : GoodIn wsL_law (wsV RL 110 RX8 yX8_why wsX8_why) := by sorry
set_option maxRecDepth 20000 in
theorem ggL_law_X7_back : GoodIn wsL_law wsX7_back := by sorry
set_option maxRecDepth 20000 in
theorem gL_law_X7_back : GoodIn wsL_law (wsV RL 111 RX7 yX7_back wsX7_back) := by sorry
set_option maxRecDepth 20000 in
theorem ggL_law_X8_back : GoodIn wsL_law wsX8_back := by sorry
set_option maxRecDepth 20000 in
theorem gL_law_X8_back : GoodIn wsL_law (wsV RL 114 RX8 yX8_back wsX8_back) := by sorry
set_option maxRecDepth 20000 in
theorem ggL_law_X7_told : GoodIn wsL_law wsX7_told := by sorry
set_option maxRecDepth 20000 in
theorem gL_law_X7_told : GoodIn wsL_law (wsV RL 115 RX7 yX7_told wsX7_told) := by sorry
set_option maxRecDepth 20000 in
theorem ggL_law_X8_told : GoodIn wsL_law wsX8_told := by sorry
set_option maxRecDepth 20000 in
theorem gL_law_X8_told : GoodIn wsL_law (wsV RL 118 RX8 yX8_told wsX8_told) := by sorry
set_option maxRecDepth 20000 in
theorem ggL_law_X7_digest : GoodIn wsL_law wsX7_digest := by sorry
set_option maxRecDepth 20000 in
theorem gL_law_X7_digest : GoodIn wsL_law (wsV RL 119 RX7 yX7_digest wsX7_digest) := by sorry
set_option maxRecDepth 20000 in
theorem ggL_law_X8_digest : GoodIn wsL_law wsX8_digest := by sorry
set_option maxRecDepth 20000 in
theorem gL_law_X8_digest : GoodIn wsL_law (wsV RL 123 RX8 yX8_digest wsX8_digest) := by sorry
theorem dL_law_0 : decode cL_law 0 = .ok (.new 7, 3) := by sorry
theorem dL_law_3 : decode cL_law 3 = .ok (.dup, 1) := by sorry
theorem dL_law_4 : decode cL_law 4 = .ok (.invokespecial 9, 3) := by sorry
theorem dL_law_7 : decode cL_law 7 = .ok (.astore_n 1, 1) := by sorry
theorem dL_law_8 : decode cL_law 8 = .ok (.new 10, 3) := by sorry
theorem dL_law_11 : decode cL_law 11 = .ok (.dup, 1) := by sorry
theorem dL_law_12 : decode cL_law 12 = .ok (.invokespecial 12, 3) := by sorry
theorem dL_law_15 : decode cL_law 15 = .ok (.astore_n 2, 1) := by sorry
theorem dL_law_16 : decode cL_law 16 = .ok (.iconst 0, 1) := by sorry
theorem dL_law_17 : decode cL_law 17 = .ok (.istore_n 3, 1) := by sorry
theorem dL_law_18 : decode cL_law 18 = .ok (.iload_n 3, 1) := by sorry
theorem dL_law_19 : decode cL_law 19 = .ok (.aload_n 0, 1) := by sorry
theorem dL_law_20 : decode cL_law 20 = .ok (.arraylength, 1) := by sorry
theorem dL_law_21 : decode cL_law 21 = .ok (.bipush 6, 2) := by sorry
theorem dL_law_23 : decode cL_law 23 = .ok (.isub, 1) := by sorry
theorem dL_law_24 : decode cL_law 24 = .ok (.if_icmp .gt 933, 3) := by sorry
theorem dL_law_27 : decode cL_law 27 = .ok (.aload_n 0, 1) := by sorry
theorem dL_law_28 : decode cL_law 28 = .ok (.iload_n 3, 1) := by sorry
theorem dL_law_29 : decode cL_law 29 = .ok (.iaload, 1) := by sorry
theorem dL_law_30 : decode cL_law 30 = .ok (.bipush 31, 2) := by sorry
theorem dL_law_32 : decode cL_law 32 = .ok (.iand, 1) := by sorry
theorem dL_law_33 : decode cL_law 33 = .ok (.tableswitch 918 0 25 #[119, 142, 165, 178, 231, 254, 307, 330, 373, 406, 429, 452, 505, 528, 561, 614, 647, 700, 733, 796, 819, 832, 845, 868, 881, 904], 119) := by sorry
theorem dL_law_152 : decode cL_law 152 = .ok (.aload_n 1, 1) := by sorry
theorem dL_law_153 : decode cL_law 153 = .ok (.aload_n 0, 1) := by sorry
theorem dL_law_154 : decode cL_law 154 = .ok (.iload_n 3, 1) := by sorry
theorem dL_law_155 : decode cL_law 155 = .ok (.iconst 1, 1) := by sorry
theorem dL_law_156 : decode cL_law 156 = .ok (.iadd, 1) := by sorry
theorem dL_law_157 : decode cL_law 157 = .ok (.iaload, 1) := by sorry
theorem dL_law_158 : decode cL_law 158 = .ok (.invokevirtual 13, 3) := by sorry
theorem dL_law_161 : decode cL_law 161 = .ok (.aload_n 2, 1) := by sorry
theorem dL_law_162 : decode cL_law 162 = .ok (.aload_n 0, 1) := by sorry
theorem dL_law_163 : decode cL_law 163 = .ok (.iload_n 3, 1) := by sorry
theorem dL_law_164 : decode cL_law 164 = .ok (.iconst 1, 1) := by sorry
theorem dL_law_165 : decode cL_law 165 = .ok (.iadd, 1) := by sorry
theorem dL_law_166 : decode cL_law 166 = .ok (.iaload, 1) := by sorry
theorem dL_law_167 : decode cL_law 167 = .ok (.invokevirtual 17, 3) := by sorry
theorem dL_law_170 : decode cL_law 170 = .ok (.if_icmp .eq 781, 3) := by sorry
theorem dL_law_173 : decode cL_law 173 = .ok (.iconst 0, 1) := by sorry
theorem dL_law_174 : decode cL_law 174 = .ok (.ireturn, 1) := by sorry
theorem dL_law_175 : decode cL_law 175 = .ok (.aload_n 1, 1) := by sorry
theorem dL_law_176 : decode cL_law 176 = .ok (.aload_n 0, 1) := by sorry
theorem dL_law_177 : decode cL_law 177 = .ok (.iload_n 3, 1) := by sorry
theorem dL_law_178 : decode cL_law 178 = .ok (.iconst 1, 1) := by sorry
theorem dL_law_179 : decode cL_law 179 = .ok (.iadd, 1) := by sorry
theorem dL_law_180 : decode cL_law 180 = .ok (.iaload, 1) := by sorry
theorem dL_law_181 : decode cL_law 181 = .ok (.invokevirtual 18, 3) := by sorry
theorem dL_law_184 : decode cL_law 184 = .ok (.aload_n 2, 1) := by sorry
theorem dL_law_185 : decode cL_law 185 = .ok (.aload_n 0, 1) := by sorry
theorem dL_law_186 : decode cL_law 186 = .ok (.iload_n 3, 1) := by sorry
theorem dL_law_187 : decode cL_law 187 = .ok (.iconst 1, 1) := by sorry
theorem dL_law_188 : decode cL_law 188 = .ok (.iadd, 1) := by sorry
theorem dL_law_189 : decode cL_law 189 = .ok (.iaload, 1) := by sorry
theorem dL_law_190 : decode cL_law 190 = .ok (.invokevirtual 21, 3) := by sorry
theorem dL_law_193 : decode cL_law 193 = .ok (.if_icmp .eq 758, 3) := by sorry
theorem dL_law_196 : decode cL_law 196 = .ok (.iconst 0, 1) := by sorry
theorem dL_law_197 : decode cL_law 197 = .ok (.ireturn, 1) := by sorry
theorem dL_law_198 : decode cL_law 198 = .ok (.aload_n 1, 1) := by sorry
theorem dL_law_199 : decode cL_law 199 = .ok (.invokevirtual 22, 3) := by sorry
theorem dL_law_202 : decode cL_law 202 = .ok (.aload_n 2, 1) := by sorry
theorem dL_law_203 : decode cL_law 203 = .ok (.invokevirtual 26, 3) := by sorry
theorem dL_law_206 : decode cL_law 206 = .ok (.if_icmp .eq 745, 3) := by sorry
theorem dL_law_209 : decode cL_law 209 = .ok (.iconst 0, 1) := by sorry
theorem dL_law_210 : decode cL_law 210 = .ok (.ireturn, 1) := by sorry
theorem dL_law_211 : decode cL_law 211 = .ok (.aload_n 1, 1) := by sorry
theorem dL_law_212 : decode cL_law 212 = .ok (.aload_n 0, 1) := by sorry
theorem dL_law_213 : decode cL_law 213 = .ok (.iload_n 3, 1) := by sorry
theorem dL_law_214 : decode cL_law 214 = .ok (.iconst 1, 1) := by sorry
theorem dL_law_215 : decode cL_law 215 = .ok (.iadd, 1) := by sorry
theorem dL_law_216 : decode cL_law 216 = .ok (.iaload, 1) := by sorry
theorem dL_law_217 : decode cL_law 217 = .ok (.aload_n 0, 1) := by sorry
theorem dL_law_218 : decode cL_law 218 = .ok (.iload_n 3, 1) := by sorry
theorem dL_law_219 : decode cL_law 219 = .ok (.iconst 2, 1) := by sorry
theorem dL_law_220 : decode cL_law 220 = .ok (.iadd, 1) := by sorry
theorem dL_law_221 : decode cL_law 221 = .ok (.iaload, 1) := by sorry
theorem dL_law_222 : decode cL_law 222 = .ok (.aload_n 0, 1) := by sorry
theorem dL_law_223 : decode cL_law 223 = .ok (.iload_n 3, 1) := by sorry
theorem dL_law_224 : decode cL_law 224 = .ok (.iconst 3, 1) := by sorry
theorem dL_law_225 : decode cL_law 225 = .ok (.iadd, 1) := by sorry
theorem dL_law_226 : decode cL_law 226 = .ok (.iaload, 1) := by sorry
theorem dL_law_227 : decode cL_law 227 = .ok (.aload_n 0, 1) := by sorry
theorem dL_law_228 : decode cL_law 228 = .ok (.iload_n 3, 1) := by sorry
theorem dL_law_229 : decode cL_law 229 = .ok (.iconst 4, 1) := by sorry
theorem dL_law_230 : decode cL_law 230 = .ok (.iadd, 1) := by sorry
theorem dL_law_231 : decode cL_law 231 = .ok (.iaload, 1) := by sorry
theorem dL_law_232 : decode cL_law 232 = .ok (.invokevirtual 27, 3) := by sorry
theorem dL_law_235 : decode cL_law 235 = .ok (.aload_n 2, 1) := by sorry
theorem dL_law_236 : decode cL_law 236 = .ok (.aload_n 0, 1) := by sorry
theorem dL_law_237 : decode cL_law 237 = .ok (.iload_n 3, 1) := by sorry
theorem dL_law_238 : decode cL_law 238 = .ok (.iconst 1, 1) := by sorry
theorem dL_law_239 : decode cL_law 239 = .ok (.iadd, 1) := by sorry
theorem dL_law_240 : decode cL_law 240 = .ok (.iaload, 1) := by sorry
theorem dL_law_241 : decode cL_law 241 = .ok (.aload_n 0, 1) := by sorry
theorem dL_law_242 : decode cL_law 242 = .ok (.iload_n 3, 1) := by sorry
theorem dL_law_243 : decode cL_law 243 = .ok (.iconst 2, 1) := by sorry
theorem dL_law_244 : decode cL_law 244 = .ok (.iadd, 1) := by sorry
theorem dL_law_245 : decode cL_law 245 = .ok (.iaload, 1) := by sorry
theorem dL_law_246 : decode cL_law 246 = .ok (.aload_n 0, 1) := by sorry
theorem dL_law_247 : decode cL_law 247 = .ok (.iload_n 3, 1) := by sorry
theorem dL_law_248 : decode cL_law 248 = .ok (.iconst 3, 1) := by sorry
theorem dL_law_249 : decode cL_law 249 = .ok (.iadd, 1) := by sorry
theorem dL_law_250 : decode cL_law 250 = .ok (.iaload, 1) := by sorry
theorem dL_law_251 : decode cL_law 251 = .ok (.aload_n 0, 1) := by sorry
theorem dL_law_252 : decode cL_law 252 = .ok (.iload_n 3, 1) := by sorry
theorem dL_law_253 : decode cL_law 253 = .ok (.iconst 4, 1) := by sorry
theorem dL_law_254 : decode cL_law 254 = .ok (.iadd, 1) := by sorry
theorem dL_law_255 : decode cL_law 255 = .ok (.iaload, 1) := by sorry
theorem dL_law_256 : decode cL_law 256 = .ok (.invokevirtual 31, 3) := by sorry
theorem dL_law_259 : decode cL_law 259 = .ok (.if_icmp .eq 692, 3) := by sorry
theorem dL_law_262 : decode cL_law 262 = .ok (.iconst 0, 1) := by sorry
theorem dL_law_263 : decode cL_law 263 = .ok (.ireturn, 1) := by sorry
theorem dL_law_264 : decode cL_law 264 = .ok (.aload_n 1, 1) := by sorry
theorem dL_law_265 : decode cL_law 265 = .ok (.aload_n 0, 1) := by sorry
theorem dL_law_266 : decode cL_law 266 = .ok (.iload_n 3, 1) := by sorry
theorem dL_law_267 : decode cL_law 267 = .ok (.iconst 1, 1) := by sorry
theorem dL_law_268 : decode cL_law 268 = .ok (.iadd, 1) := by sorry
theorem dL_law_269 : decode cL_law 269 = .ok (.iaload, 1) := by sorry
theorem dL_law_270 : decode cL_law 270 = .ok (.invokevirtual 32, 3) := by sorry
theorem dL_law_273 : decode cL_law 273 = .ok (.aload_n 2, 1) := by sorry
theorem dL_law_274 : decode cL_law 274 = .ok (.aload_n 0, 1) := by sorry
theorem dL_law_275 : decode cL_law 275 = .ok (.iload_n 3, 1) := by sorry
theorem dL_law_276 : decode cL_law 276 = .ok (.iconst 1, 1) := by sorry
theorem dL_law_277 : decode cL_law 277 = .ok (.iadd, 1) := by sorry
theorem dL_law_278 : decode cL_law 278 = .ok (.iaload, 1) := by sorry
theorem dL_law_279 : decode cL_law 279 = .ok (.invokevirtual 35, 3) := by sorry
theorem dL_law_282 : decode cL_law 282 = .ok (.if_icmp .eq 669, 3) := by sorry
theorem dL_law_285 : decode cL_law 285 = .ok (.iconst 0, 1) := by sorry
theorem dL_law_286 : decode cL_law 286 = .ok (.ireturn, 1) := by sorry
theorem dL_law_287 : decode cL_law 287 = .ok (.aload_n 1, 1) := by sorry
theorem dL_law_288 : decode cL_law 288 = .ok (.aload_n 0, 1) := by sorry
theorem dL_law_289 : decode cL_law 289 = .ok (.iload_n 3, 1) := by sorry
theorem dL_law_290 : decode cL_law 290 = .ok (.iconst 1, 1) := by sorry
theorem dL_law_291 : decode cL_law 291 = .ok (.iadd, 1) := by sorry
theorem dL_law_292 : decode cL_law 292 = .ok (.iaload, 1) := by sorry
theorem dL_law_293 : decode cL_law 293 = .ok (.aload_n 0, 1) := by sorry
theorem dL_law_294 : decode cL_law 294 = .ok (.iload_n 3, 1) := by sorry
theorem dL_law_295 : decode cL_law 295 = .ok (.iconst 2, 1) := by sorry
theorem dL_law_296 : decode cL_law 296 = .ok (.iadd, 1) := by sorry
theorem dL_law_297 : decode cL_law 297 = .ok (.iaload, 1) := by sorry
theorem dL_law_298 : decode cL_law 298 = .ok (.aload_n 0, 1) := by sorry
theorem dL_law_299 : decode cL_law 299 = .ok (.iload_n 3, 1) := by sorry
theorem dL_law_300 : decode cL_law 300 = .ok (.iconst 3, 1) := by sorry
theorem dL_law_301 : decode cL_law 301 = .ok (.iadd, 1) := by sorry
theorem dL_law_302 : decode cL_law 302 = .ok (.iaload, 1) := by sorry
theorem dL_law_303 : decode cL_law 303 = .ok (.aload_n 0, 1) := by sorry
theorem dL_law_304 : decode cL_law 304 = .ok (.iload_n 3, 1) := by sorry
theorem dL_law_305 : decode cL_law 305 = .ok (.iconst 4, 1) := by sorry
theorem dL_law_306 : decode cL_law 306 = .ok (.iadd, 1) := by sorry
theorem dL_law_307 : decode cL_law 307 = .ok (.iaload, 1) := by sorry
theorem dL_law_308 : decode cL_law 308 = .ok (.invokevirtual 36, 3) := by sorry
theorem dL_law_311 : decode cL_law 311 = .ok (.aload_n 2, 1) := by sorry
theorem dL_law_312 : decode cL_law 312 = .ok (.aload_n 0, 1) := by sorry
theorem dL_law_313 : decode cL_law 313 = .ok (.iload_n 3, 1) := by sorry
theorem dL_law_314 : decode cL_law 314 = .ok (.iconst 1, 1) := by sorry
theorem dL_law_315 : decode cL_law 315 = .ok (.iadd, 1) := by sorry
theorem dL_law_316 : decode cL_law 316 = .ok (.iaload, 1) := by sorry
theorem dL_law_317 : decode cL_law 317 = .ok (.aload_n 0, 1) := by sorry
theorem dL_law_318 : decode cL_law 318 = .ok (.iload_n 3, 1) := by sorry
theorem dL_law_319 : decode cL_law 319 = .ok (.iconst 2, 1) := by sorry
theorem dL_law_320 : decode cL_law 320 = .ok (.iadd, 1) := by sorry
theorem dL_law_321 : decode cL_law 321 = .ok (.iaload, 1) := by sorry
theorem dL_law_322 : decode cL_law 322 = .ok (.aload_n 0, 1) := by sorry
theorem dL_law_323 : decode cL_law 323 = .ok (.iload_n 3, 1) := by sorry
theorem dL_law_324 : decode cL_law 324 = .ok (.iconst 3, 1) := by sorry
theorem dL_law_325 : decode cL_law 325 = .ok (.iadd, 1) := by sorry
theorem dL_law_326 : decode cL_law 326 = .ok (.iaload, 1) := by sorry
theorem dL_law_327 : decode cL_law 327 = .ok (.aload_n 0, 1) := by sorry
theorem dL_law_328 : decode cL_law 328 = .ok (.iload_n 3, 1) := by sorry
theorem dL_law_329 : decode cL_law 329 = .ok (.iconst 4, 1) := by sorry
theorem dL_law_330 : decode cL_law 330 = .ok (.iadd, 1) := by sorry
theorem dL_law_331 : decode cL_law 331 = .ok (.iaload, 1) := by sorry
theorem dL_law_332 : decode cL_law 332 = .ok (.invokevirtual 39, 3) := by sorry
theorem dL_law_335 : decode cL_law 335 = .ok (.if_icmp .eq 616, 3) := by sorry
theorem dL_law_338 : decode cL_law 338 = .ok (.iconst 0, 1) := by sorry
theorem dL_law_339 : decode cL_law 339 = .ok (.ireturn, 1) := by sorry
theorem dL_law_340 : decode cL_law 340 = .ok (.aload_n 1, 1) := by sorry
theorem dL_law_341 : decode cL_law 341 = .ok (.aload_n 0, 1) := by sorry
theorem dL_law_342 : decode cL_law 342 = .ok (.iload_n 3, 1) := by sorry
theorem dL_law_343 : decode cL_law 343 = .ok (.iconst 1, 1) := by sorry
theorem dL_law_344 : decode cL_law 344 = .ok (.iadd, 1) := by sorry
theorem dL_law_345 : decode cL_law 345 = .ok (.iaload, 1) := by sorry
theorem dL_law_346 : decode cL_law 346 = .ok (.invokevirtual 40, 3) := by sorry
theorem dL_law_349 : decode cL_law 349 = .ok (.aload_n 2, 1) := by sorry
theorem dL_law_350 : decode cL_law 350 = .ok (.aload_n 0, 1) := by sorry
theorem dL_law_351 : decode cL_law 351 = .ok (.iload_n 3, 1) := by sorry
theorem dL_law_352 : decode cL_law 352 = .ok (.iconst 1, 1) := by sorry
theorem dL_law_353 : decode cL_law 353 = .ok (.iadd, 1) := by sorry
theorem dL_law_354 : decode cL_law 354 = .ok (.iaload, 1) := by sorry
theorem dL_law_355 : decode cL_law 355 = .ok (.invokevirtual 43, 3) := by sorry
theorem dL_law_358 : decode cL_law 358 = .ok (.if_icmp .eq 593, 3) := by sorry
theorem dL_law_361 : decode cL_law 361 = .ok (.iconst 0, 1) := by sorry
theorem dL_law_362 : decode cL_law 362 = .ok (.ireturn, 1) := by sorry
theorem dL_law_363 : decode cL_law 363 = .ok (.aload_n 1, 1) := by sorry
theorem dL_law_364 : decode cL_law 364 = .ok (.aload_n 0, 1) := by sorry
theorem dL_law_365 : decode cL_law 365 = .ok (.iload_n 3, 1) := by sorry
theorem dL_law_366 : decode cL_law 366 = .ok (.iconst 1, 1) := by sorry
theorem dL_law_367 : decode cL_law 367 = .ok (.iadd, 1) := by sorry
theorem dL_law_368 : decode cL_law 368 = .ok (.iaload, 1) := by sorry
theorem dL_law_369 : decode cL_law 369 = .ok (.aload_n 0, 1) := by sorry
theorem dL_law_370 : decode cL_law 370 = .ok (.iload_n 3, 1) := by sorry
theorem dL_law_371 : decode cL_law 371 = .ok (.iconst 2, 1) := by sorry
theorem dL_law_372 : decode cL_law 372 = .ok (.iadd, 1) := by sorry
theorem dL_law_373 : decode cL_law 373 = .ok (.iaload, 1) := by sorry
theorem dL_law_374 : decode cL_law 374 = .ok (.aload_n 0, 1) := by sorry
theorem dL_law_375 : decode cL_law 375 = .ok (.iload_n 3, 1) := by sorry
theorem dL_law_376 : decode cL_law 376 = .ok (.iconst 3, 1) := by sorry
theorem dL_law_377 : decode cL_law 377 = .ok (.iadd, 1) := by sorry
theorem dL_law_378 : decode cL_law 378 = .ok (.iaload, 1) := by sorry
theorem dL_law_379 : decode cL_law 379 = .ok (.invokevirtual 44, 3) := by sorry
theorem dL_law_382 : decode cL_law 382 = .ok (.aload_n 2, 1) := by sorry
theorem dL_law_383 : decode cL_law 383 = .ok (.aload_n 0, 1) := by sorry
theorem dL_law_384 : decode cL_law 384 = .ok (.iload_n 3, 1) := by sorry
theorem dL_law_385 : decode cL_law 385 = .ok (.iconst 1, 1) := by sorry
theorem dL_law_386 : decode cL_law 386 = .ok (.iadd, 1) := by sorry
theorem dL_law_387 : decode cL_law 387 = .ok (.iaload, 1) := by sorry
theorem dL_law_388 : decode cL_law 388 = .ok (.aload_n 0, 1) := by sorry
theorem dL_law_389 : decode cL_law 389 = .ok (.iload_n 3, 1) := by sorry
theorem dL_law_390 : decode cL_law 390 = .ok (.iconst 2, 1) := by sorry
theorem dL_law_391 : decode cL_law 391 = .ok (.iadd, 1) := by sorry
theorem dL_law_392 : decode cL_law 392 = .ok (.iaload, 1) := by sorry
theorem dL_law_393 : decode cL_law 393 = .ok (.aload_n 0, 1) := by sorry
theorem dL_law_394 : decode cL_law 394 = .ok (.iload_n 3, 1) := by sorry
theorem dL_law_395 : decode cL_law 395 = .ok (.iconst 3, 1) := by sorry
theorem dL_law_396 : decode cL_law 396 = .ok (.iadd, 1) := by sorry
theorem dL_law_397 : decode cL_law 397 = .ok (.iaload, 1) := by sorry
theorem dL_law_398 : decode cL_law 398 = .ok (.invokevirtual 48, 3) := by sorry
theorem dL_law_401 : decode cL_law 401 = .ok (.if_icmp .eq 550, 3) := by sorry
theorem dL_law_404 : decode cL_law 404 = .ok (.iconst 0, 1) := by sorry
theorem dL_law_405 : decode cL_law 405 = .ok (.ireturn, 1) := by sorry
theorem dL_law_406 : decode cL_law 406 = .ok (.aload_n 1, 1) := by sorry
theorem dL_law_407 : decode cL_law 407 = .ok (.aload_n 0, 1) := by sorry
theorem dL_law_408 : decode cL_law 408 = .ok (.iload_n 3, 1) := by sorry
theorem dL_law_409 : decode cL_law 409 = .ok (.iconst 1, 1) := by sorry
theorem dL_law_410 : decode cL_law 410 = .ok (.iadd, 1) := by sorry
theorem dL_law_411 : decode cL_law 411 = .ok (.iaload, 1) := by sorry
theorem dL_law_412 : decode cL_law 412 = .ok (.aload_n 0, 1) := by sorry
theorem dL_law_413 : decode cL_law 413 = .ok (.iload_n 3, 1) := by sorry
theorem dL_law_414 : decode cL_law 414 = .ok (.iconst 2, 1) := by sorry
theorem dL_law_415 : decode cL_law 415 = .ok (.iadd, 1) := by sorry
theorem dL_law_416 : decode cL_law 416 = .ok (.iaload, 1) := by sorry
theorem dL_law_417 : decode cL_law 417 = .ok (.invokevirtual 49, 3) := by sorry
theorem dL_law_420 : decode cL_law 420 = .ok (.aload_n 2, 1) := by sorry
theorem dL_law_421 : decode cL_law 421 = .ok (.aload_n 0, 1) := by sorry
theorem dL_law_422 : decode cL_law 422 = .ok (.iload_n 3, 1) := by sorry
theorem dL_law_423 : decode cL_law 423 = .ok (.iconst 1, 1) := by sorry
theorem dL_law_424 : decode cL_law 424 = .ok (.iadd, 1) := by sorry
theorem dL_law_425 : decode cL_law 425 = .ok (.iaload, 1) := by sorry
theorem dL_law_426 : decode cL_law 426 = .ok (.aload_n 0, 1) := by sorry
theorem dL_law_427 : decode cL_law 427 = .ok (.iload_n 3, 1) := by sorry
theorem dL_law_428 : decode cL_law 428 = .ok (.iconst 2, 1) := by sorry
theorem dL_law_429 : decode cL_law 429 = .ok (.iadd, 1) := by sorry
theorem dL_law_430 : decode cL_law 430 = .ok (.iaload, 1) := by sorry
theorem dL_law_431 : decode cL_law 431 = .ok (.invokevirtual 53, 3) := by sorry
theorem dL_law_434 : decode cL_law 434 = .ok (.if_icmp .eq 517, 3) := by sorry
theorem dL_law_437 : decode cL_law 437 = .ok (.iconst 0, 1) := by sorry
theorem dL_law_438 : decode cL_law 438 = .ok (.ireturn, 1) := by sorry
theorem dL_law_439 : decode cL_law 439 = .ok (.aload_n 1, 1) := by sorry
theorem dL_law_440 : decode cL_law 440 = .ok (.aload_n 0, 1) := by sorry
theorem dL_law_441 : decode cL_law 441 = .ok (.iload_n 3, 1) := by sorry
theorem dL_law_442 : decode cL_law 442 = .ok (.iconst 1, 1) := by sorry
theorem dL_law_443 : decode cL_law 443 = .ok (.iadd, 1) := by sorry
theorem dL_law_444 : decode cL_law 444 = .ok (.iaload, 1) := by sorry
theorem dL_law_445 : decode cL_law 445 = .ok (.invokevirtual 54, 3) := by sorry
theorem dL_law_448 : decode cL_law 448 = .ok (.aload_n 2, 1) := by sorry
theorem dL_law_449 : decode cL_law 449 = .ok (.aload_n 0, 1) := by sorry
theorem dL_law_450 : decode cL_law 450 = .ok (.iload_n 3, 1) := by sorry
theorem dL_law_451 : decode cL_law 451 = .ok (.iconst 1, 1) := by sorry
theorem dL_law_452 : decode cL_law 452 = .ok (.iadd, 1) := by sorry
theorem dL_law_453 : decode cL_law 453 = .ok (.iaload, 1) := by sorry
theorem dL_law_454 : decode cL_law 454 = .ok (.invokevirtual 57, 3) := by sorry
theorem dL_law_457 : decode cL_law 457 = .ok (.if_icmp .eq 494, 3) := by sorry
theorem dL_law_460 : decode cL_law 460 = .ok (.iconst 0, 1) := by sorry
theorem dL_law_461 : decode cL_law 461 = .ok (.ireturn, 1) := by sorry
theorem dL_law_462 : decode cL_law 462 = .ok (.aload_n 1, 1) := by sorry
theorem dL_law_463 : decode cL_law 463 = .ok (.aload_n 0, 1) := by sorry
theorem dL_law_464 : decode cL_law 464 = .ok (.iload_n 3, 1) := by sorry
theorem dL_law_465 : decode cL_law 465 = .ok (.iconst 1, 1) := by sorry
theorem dL_law_466 : decode cL_law 466 = .ok (.iadd, 1) := by sorry
theorem dL_law_467 : decode cL_law 467 = .ok (.iaload, 1) := by sorry
theorem dL_law_468 : decode cL_law 468 = .ok (.invokevirtual 58, 3) := by sorry
theorem dL_law_471 : decode cL_law 471 = .ok (.aload_n 2, 1) := by sorry
theorem dL_law_472 : decode cL_law 472 = .ok (.aload_n 0, 1) := by sorry
theorem dL_law_473 : decode cL_law 473 = .ok (.iload_n 3, 1) := by sorry
theorem dL_law_474 : decode cL_law 474 = .ok (.iconst 1, 1) := by sorry
theorem dL_law_475 : decode cL_law 475 = .ok (.iadd, 1) := by sorry
theorem dL_law_476 : decode cL_law 476 = .ok (.iaload, 1) := by sorry
theorem dL_law_477 : decode cL_law 477 = .ok (.invokevirtual 61, 3) := by sorry
theorem dL_law_480 : decode cL_law 480 = .ok (.if_icmp .eq 471, 3) := by sorry
theorem dL_law_483 : decode cL_law 483 = .ok (.iconst 0, 1) := by sorry
theorem dL_law_484 : decode cL_law 484 = .ok (.ireturn, 1) := by sorry
theorem dL_law_485 : decode cL_law 485 = .ok (.aload_n 1, 1) := by sorry
theorem dL_law_486 : decode cL_law 486 = .ok (.aload_n 0, 1) := by sorry
theorem dL_law_487 : decode cL_law 487 = .ok (.iload_n 3, 1) := by sorry
theorem dL_law_488 : decode cL_law 488 = .ok (.iconst 1, 1) := by sorry
theorem dL_law_489 : decode cL_law 489 = .ok (.iadd, 1) := by sorry
theorem dL_law_490 : decode cL_law 490 = .ok (.iaload, 1) := by sorry
theorem dL_law_491 : decode cL_law 491 = .ok (.aload_n 0, 1) := by sorry
theorem dL_law_492 : decode cL_law 492 = .ok (.iload_n 3, 1) := by sorry
theorem dL_law_493 : decode cL_law 493 = .ok (.iconst 2, 1) := by sorry
theorem dL_law_494 : decode cL_law 494 = .ok (.iadd, 1) := by sorry
theorem dL_law_495 : decode cL_law 495 = .ok (.iaload, 1) := by sorry
theorem dL_law_496 : decode cL_law 496 = .ok (.aload_n 0, 1) := by sorry
theorem dL_law_497 : decode cL_law 497 = .ok (.iload_n 3, 1) := by sorry
theorem dL_law_498 : decode cL_law 498 = .ok (.iconst 3, 1) := by sorry
theorem dL_law_499 : decode cL_law 499 = .ok (.iadd, 1) := by sorry
theorem dL_law_500 : decode cL_law 500 = .ok (.iaload, 1) := by sorry
theorem dL_law_501 : decode cL_law 501 = .ok (.aload_n 0, 1) := by sorry
theorem dL_law_502 : decode cL_law 502 = .ok (.iload_n 3, 1) := by sorry
theorem dL_law_503 : decode cL_law 503 = .ok (.iconst 4, 1) := by sorry
theorem dL_law_504 : decode cL_law 504 = .ok (.iadd, 1) := by sorry
theorem dL_law_505 : decode cL_law 505 = .ok (.iaload, 1) := by sorry
theorem dL_law_506 : decode cL_law 506 = .ok (.invokevirtual 62, 3) := by sorry
theorem dL_law_509 : decode cL_law 509 = .ok (.aload_n 2, 1) := by sorry
theorem dL_law_510 : decode cL_law 510 = .ok (.aload_n 0, 1) := by sorry
theorem dL_law_511 : decode cL_law 511 = .ok (.iload_n 3, 1) := by sorry
theorem dL_law_512 : decode cL_law 512 = .ok (.iconst 1, 1) := by sorry
theorem dL_law_513 : decode cL_law 513 = .ok (.iadd, 1) := by sorry
theorem dL_law_514 : decode cL_law 514 = .ok (.iaload, 1) := by sorry
theorem dL_law_515 : decode cL_law 515 = .ok (.aload_n 0, 1) := by sorry
theorem dL_law_516 : decode cL_law 516 = .ok (.iload_n 3, 1) := by sorry
theorem dL_law_517 : decode cL_law 517 = .ok (.iconst 2, 1) := by sorry
theorem dL_law_518 : decode cL_law 518 = .ok (.iadd, 1) := by sorry
theorem dL_law_519 : decode cL_law 519 = .ok (.iaload, 1) := by sorry
theorem dL_law_520 : decode cL_law 520 = .ok (.aload_n 0, 1) := by sorry
theorem dL_law_521 : decode cL_law 521 = .ok (.iload_n 3, 1) := by sorry
theorem dL_law_522 : decode cL_law 522 = .ok (.iconst 3, 1) := by sorry
theorem dL_law_523 : decode cL_law 523 = .ok (.iadd, 1) := by sorry
theorem dL_law_524 : decode cL_law 524 = .ok (.iaload, 1) := by sorry
theorem dL_law_525 : decode cL_law 525 = .ok (.aload_n 0, 1) := by sorry
theorem dL_law_526 : decode cL_law 526 = .ok (.iload_n 3, 1) := by sorry
theorem dL_law_527 : decode cL_law 527 = .ok (.iconst 4, 1) := by sorry
theorem dL_law_528 : decode cL_law 528 = .ok (.iadd, 1) := by sorry
theorem dL_law_529 : decode cL_law 529 = .ok (.iaload, 1) := by sorry
theorem dL_law_530 : decode cL_law 530 = .ok (.invokevirtual 65, 3) := by sorry
theorem dL_law_533 : decode cL_law 533 = .ok (.if_icmp .eq 418, 3) := by sorry
theorem dL_law_536 : decode cL_law 536 = .ok (.iconst 0, 1) := by sorry
theorem dL_law_537 : decode cL_law 537 = .ok (.ireturn, 1) := by sorry
theorem dL_law_538 : decode cL_law 538 = .ok (.aload_n 1, 1) := by sorry
theorem dL_law_539 : decode cL_law 539 = .ok (.aload_n 0, 1) := by sorry
theorem dL_law_540 : decode cL_law 540 = .ok (.iload_n 3, 1) := by sorry
theorem dL_law_541 : decode cL_law 541 = .ok (.iconst 1, 1) := by sorry
theorem dL_law_542 : decode cL_law 542 = .ok (.iadd, 1) := by sorry
theorem dL_law_543 : decode cL_law 543 = .ok (.iaload, 1) := by sorry
theorem dL_law_544 : decode cL_law 544 = .ok (.invokevirtual 66, 3) := by sorry
theorem dL_law_547 : decode cL_law 547 = .ok (.aload_n 2, 1) := by sorry
theorem dL_law_548 : decode cL_law 548 = .ok (.aload_n 0, 1) := by sorry
theorem dL_law_549 : decode cL_law 549 = .ok (.iload_n 3, 1) := by sorry
theorem dL_law_550 : decode cL_law 550 = .ok (.iconst 1, 1) := by sorry
theorem dL_law_551 : decode cL_law 551 = .ok (.iadd, 1) := by sorry
theorem dL_law_552 : decode cL_law 552 = .ok (.iaload, 1) := by sorry
theorem dL_law_553 : decode cL_law 553 = .ok (.invokevirtual 69, 3) := by sorry
theorem dL_law_556 : decode cL_law 556 = .ok (.if_icmp .eq 395, 3) := by sorry
theorem dL_law_559 : decode cL_law 559 = .ok (.iconst 0, 1) := by sorry
theorem dL_law_560 : decode cL_law 560 = .ok (.ireturn, 1) := by sorry
theorem dL_law_561 : decode cL_law 561 = .ok (.aload_n 1, 1) := by sorry
theorem dL_law_562 : decode cL_law 562 = .ok (.aload_n 0, 1) := by sorry
theorem dL_law_563 : decode cL_law 563 = .ok (.iload_n 3, 1) := by sorry
theorem dL_law_564 : decode cL_law 564 = .ok (.iconst 1, 1) := by sorry
theorem dL_law_565 : decode cL_law 565 = .ok (.iadd, 1) := by sorry
theorem dL_law_566 : decode cL_law 566 = .ok (.iaload, 1) := by sorry
theorem dL_law_567 : decode cL_law 567 = .ok (.aload_n 0, 1) := by sorry
theorem dL_law_568 : decode cL_law 568 = .ok (.iload_n 3, 1) := by sorry
theorem dL_law_569 : decode cL_law 569 = .ok (.iconst 2, 1) := by sorry
theorem dL_law_570 : decode cL_law 570 = .ok (.iadd, 1) := by sorry
theorem dL_law_571 : decode cL_law 571 = .ok (.iaload, 1) := by sorry
theorem dL_law_572 : decode cL_law 572 = .ok (.invokevirtual 70, 3) := by sorry
theorem dL_law_575 : decode cL_law 575 = .ok (.aload_n 2, 1) := by sorry
theorem dL_law_576 : decode cL_law 576 = .ok (.aload_n 0, 1) := by sorry
theorem dL_law_577 : decode cL_law 577 = .ok (.iload_n 3, 1) := by sorry
theorem dL_law_578 : decode cL_law 578 = .ok (.iconst 1, 1) := by sorry
theorem dL_law_579 : decode cL_law 579 = .ok (.iadd, 1) := by sorry
theorem dL_law_580 : decode cL_law 580 = .ok (.iaload, 1) := by sorry
theorem dL_law_581 : decode cL_law 581 = .ok (.aload_n 0, 1) := by sorry
theorem dL_law_582 : decode cL_law 582 = .ok (.iload_n 3, 1) := by sorry
theorem dL_law_583 : decode cL_law 583 = .ok (.iconst 2, 1) := by sorry
theorem dL_law_584 : decode cL_law 584 = .ok (.iadd, 1) := by sorry
theorem dL_law_585 : decode cL_law 585 = .ok (.iaload, 1) := by sorry
theorem dL_law_586 : decode cL_law 586 = .ok (.invokevirtual 73, 3) := by sorry
theorem dL_law_589 : decode cL_law 589 = .ok (.if_icmp .eq 362, 3) := by sorry
theorem dL_law_592 : decode cL_law 592 = .ok (.iconst 0, 1) := by sorry
theorem dL_law_593 : decode cL_law 593 = .ok (.ireturn, 1) := by sorry
theorem dL_law_594 : decode cL_law 594 = .ok (.aload_n 1, 1) := by sorry
theorem dL_law_595 : decode cL_law 595 = .ok (.aload_n 0, 1) := by sorry
theorem dL_law_596 : decode cL_law 596 = .ok (.iload_n 3, 1) := by sorry
theorem dL_law_597 : decode cL_law 597 = .ok (.iconst 1, 1) := by sorry
theorem dL_law_598 : decode cL_law 598 = .ok (.iadd, 1) := by sorry
theorem dL_law_599 : decode cL_law 599 = .ok (.iaload, 1) := by sorry
theorem dL_law_600 : decode cL_law 600 = .ok (.aload_n 0, 1) := by sorry
theorem dL_law_601 : decode cL_law 601 = .ok (.iload_n 3, 1) := by sorry
theorem dL_law_602 : decode cL_law 602 = .ok (.iconst 2, 1) := by sorry
theorem dL_law_603 : decode cL_law 603 = .ok (.iadd, 1) := by sorry
theorem dL_law_604 : decode cL_law 604 = .ok (.iaload, 1) := by sorry
theorem dL_law_605 : decode cL_law 605 = .ok (.aload_n 0, 1) := by sorry
theorem dL_law_606 : decode cL_law 606 = .ok (.iload_n 3, 1) := by sorry
theorem dL_law_607 : decode cL_law 607 = .ok (.iconst 3, 1) := by sorry
theorem dL_law_608 : decode cL_law 608 = .ok (.iadd, 1) := by sorry
theorem dL_law_609 : decode cL_law 609 = .ok (.iaload, 1) := by sorry
theorem dL_law_610 : decode cL_law 610 = .ok (.aload_n 0, 1) := by sorry
theorem dL_law_611 : decode cL_law 611 = .ok (.iload_n 3, 1) := by sorry
theorem dL_law_612 : decode cL_law 612 = .ok (.iconst 4, 1) := by sorry
theorem dL_law_613 : decode cL_law 613 = .ok (.iadd, 1) := by sorry
theorem dL_law_614 : decode cL_law 614 = .ok (.iaload, 1) := by sorry
theorem dL_law_615 : decode cL_law 615 = .ok (.invokevirtual 74, 3) := by sorry
theorem dL_law_618 : decode cL_law 618 = .ok (.aload_n 2, 1) := by sorry
theorem dL_law_619 : decode cL_law 619 = .ok (.aload_n 0, 1) := by sorry
theorem dL_law_620 : decode cL_law 620 = .ok (.iload_n 3, 1) := by sorry
theorem dL_law_621 : decode cL_law 621 = .ok (.iconst 1, 1) := by sorry
theorem dL_law_622 : decode cL_law 622 = .ok (.iadd, 1) := by sorry
theorem dL_law_623 : decode cL_law 623 = .ok (.iaload, 1) := by sorry
theorem dL_law_624 : decode cL_law 624 = .ok (.aload_n 0, 1) := by sorry
theorem dL_law_625 : decode cL_law 625 = .ok (.iload_n 3, 1) := by sorry
theorem dL_law_626 : decode cL_law 626 = .ok (.iconst 2, 1) := by sorry
theorem dL_law_627 : decode cL_law 627 = .ok (.iadd, 1) := by sorry
theorem dL_law_628 : decode cL_law 628 = .ok (.iaload, 1) := by sorry
theorem dL_law_629 : decode cL_law 629 = .ok (.aload_n 0, 1) := by sorry
theorem dL_law_630 : decode cL_law 630 = .ok (.iload_n 3, 1) := by sorry
theorem dL_law_631 : decode cL_law 631 = .ok (.iconst 3, 1) := by sorry
theorem dL_law_632 : decode cL_law 632 = .ok (.iadd, 1) := by sorry
theorem dL_law_633 : decode cL_law 633 = .ok (.iaload, 1) := by sorry
theorem dL_law_634 : decode cL_law 634 = .ok (.aload_n 0, 1) := by sorry
theorem dL_law_635 : decode cL_law 635 = .ok (.iload_n 3, 1) := by sorry
theorem dL_law_636 : decode cL_law 636 = .ok (.iconst 4, 1) := by sorry
theorem dL_law_637 : decode cL_law 637 = .ok (.iadd, 1) := by sorry
theorem dL_law_638 : decode cL_law 638 = .ok (.iaload, 1) := by sorry
theorem dL_law_639 : decode cL_law 639 = .ok (.invokevirtual 77, 3) := by sorry
theorem dL_law_642 : decode cL_law 642 = .ok (.if_icmp .eq 309, 3) := by sorry
theorem dL_law_645 : decode cL_law 645 = .ok (.iconst 0, 1) := by sorry
theorem dL_law_646 : decode cL_law 646 = .ok (.ireturn, 1) := by sorry
theorem dL_law_647 : decode cL_law 647 = .ok (.aload_n 1, 1) := by sorry
theorem dL_law_648 : decode cL_law 648 = .ok (.aload_n 0, 1) := by sorry
theorem dL_law_649 : decode cL_law 649 = .ok (.iload_n 3, 1) := by sorry
theorem dL_law_650 : decode cL_law 650 = .ok (.iconst 1, 1) := by sorry
theorem dL_law_651 : decode cL_law 651 = .ok (.iadd, 1) := by sorry
theorem dL_law_652 : decode cL_law 652 = .ok (.iaload, 1) := by sorry
theorem dL_law_653 : decode cL_law 653 = .ok (.aload_n 0, 1) := by sorry
theorem dL_law_654 : decode cL_law 654 = .ok (.iload_n 3, 1) := by sorry
theorem dL_law_655 : decode cL_law 655 = .ok (.iconst 2, 1) := by sorry
theorem dL_law_656 : decode cL_law 656 = .ok (.iadd, 1) := by sorry
theorem dL_law_657 : decode cL_law 657 = .ok (.iaload, 1) := by sorry
theorem dL_law_658 : decode cL_law 658 = .ok (.invokevirtual 78, 3) := by sorry
theorem dL_law_661 : decode cL_law 661 = .ok (.aload_n 2, 1) := by sorry
theorem dL_law_662 : decode cL_law 662 = .ok (.aload_n 0, 1) := by sorry
theorem dL_law_663 : decode cL_law 663 = .ok (.iload_n 3, 1) := by sorry
theorem dL_law_664 : decode cL_law 664 = .ok (.iconst 1, 1) := by sorry
theorem dL_law_665 : decode cL_law 665 = .ok (.iadd, 1) := by sorry
theorem dL_law_666 : decode cL_law 666 = .ok (.iaload, 1) := by sorry
theorem dL_law_667 : decode cL_law 667 = .ok (.aload_n 0, 1) := by sorry
theorem dL_law_668 : decode cL_law 668 = .ok (.iload_n 3, 1) := by sorry
theorem dL_law_669 : decode cL_law 669 = .ok (.iconst 2, 1) := by sorry
theorem dL_law_670 : decode cL_law 670 = .ok (.iadd, 1) := by sorry
theorem dL_law_671 : decode cL_law 671 = .ok (.iaload, 1) := by sorry
theorem dL_law_672 : decode cL_law 672 = .ok (.invokevirtual 81, 3) := by sorry
theorem dL_law_675 : decode cL_law 675 = .ok (.if_icmp .eq 276, 3) := by sorry
theorem dL_law_678 : decode cL_law 678 = .ok (.iconst 0, 1) := by sorry
theorem dL_law_679 : decode cL_law 679 = .ok (.ireturn, 1) := by sorry
theorem dL_law_680 : decode cL_law 680 = .ok (.aload_n 1, 1) := by sorry
theorem dL_law_681 : decode cL_law 681 = .ok (.aload_n 0, 1) := by sorry
theorem dL_law_682 : decode cL_law 682 = .ok (.iload_n 3, 1) := by sorry
theorem dL_law_683 : decode cL_law 683 = .ok (.iconst 1, 1) := by sorry
theorem dL_law_684 : decode cL_law 684 = .ok (.iadd, 1) := by sorry
theorem dL_law_685 : decode cL_law 685 = .ok (.iaload, 1) := by sorry
theorem dL_law_686 : decode cL_law 686 = .ok (.aload_n 0, 1) := by sorry
theorem dL_law_687 : decode cL_law 687 = .ok (.iload_n 3, 1) := by sorry
theorem dL_law_688 : decode cL_law 688 = .ok (.iconst 2, 1) := by sorry
theorem dL_law_689 : decode cL_law 689 = .ok (.iadd, 1) := by sorry
theorem dL_law_690 : decode cL_law 690 = .ok (.iaload, 1) := by sorry
theorem dL_law_691 : decode cL_law 691 = .ok (.aload_n 0, 1) := by sorry
theorem dL_law_692 : decode cL_law 692 = .ok (.iload_n 3, 1) := by sorry
theorem dL_law_693 : decode cL_law 693 = .ok (.iconst 3, 1) := by sorry
theorem dL_law_694 : decode cL_law 694 = .ok (.iadd, 1) := by sorry
theorem dL_law_695 : decode cL_law 695 = .ok (.iaload, 1) := by sorry
theorem dL_law_696 : decode cL_law 696 = .ok (.aload_n 0, 1) := by sorry
theorem dL_law_697 : decode cL_law 697 = .ok (.iload_n 3, 1) := by sorry
theorem dL_law_698 : decode cL_law 698 = .ok (.iconst 4, 1) := by sorry
theorem dL_law_699 : decode cL_law 699 = .ok (.iadd, 1) := by sorry
theorem dL_law_700 : decode cL_law 700 = .ok (.iaload, 1) := by sorry
theorem dL_law_701 : decode cL_law 701 = .ok (.invokevirtual 82, 3) := by sorry
theorem dL_law_704 : decode cL_law 704 = .ok (.aload_n 2, 1) := by sorry
theorem dL_law_705 : decode cL_law 705 = .ok (.aload_n 0, 1) := by sorry
theorem dL_law_706 : decode cL_law 706 = .ok (.iload_n 3, 1) := by sorry
theorem dL_law_707 : decode cL_law 707 = .ok (.iconst 1, 1) := by sorry
theorem dL_law_708 : decode cL_law 708 = .ok (.iadd, 1) := by sorry
theorem dL_law_709 : decode cL_law 709 = .ok (.iaload, 1) := by sorry
theorem dL_law_710 : decode cL_law 710 = .ok (.aload_n 0, 1) := by sorry
theorem dL_law_711 : decode cL_law 711 = .ok (.iload_n 3, 1) := by sorry
theorem dL_law_712 : decode cL_law 712 = .ok (.iconst 2, 1) := by sorry
theorem dL_law_713 : decode cL_law 713 = .ok (.iadd, 1) := by sorry
theorem dL_law_714 : decode cL_law 714 = .ok (.iaload, 1) := by sorry
theorem dL_law_715 : decode cL_law 715 = .ok (.aload_n 0, 1) := by sorry
theorem dL_law_716 : decode cL_law 716 = .ok (.iload_n 3, 1) := by sorry
theorem dL_law_717 : decode cL_law 717 = .ok (.iconst 3, 1) := by sorry
theorem dL_law_718 : decode cL_law 718 = .ok (.iadd, 1) := by sorry
theorem dL_law_719 : decode cL_law 719 = .ok (.iaload, 1) := by sorry
theorem dL_law_720 : decode cL_law 720 = .ok (.aload_n 0, 1) := by sorry
theorem dL_law_721 : decode cL_law 721 = .ok (.iload_n 3, 1) := by sorry
theorem dL_law_722 : decode cL_law 722 = .ok (.iconst 4, 1) := by sorry
theorem dL_law_723 : decode cL_law 723 = .ok (.iadd, 1) := by sorry
theorem dL_law_724 : decode cL_law 724 = .ok (.iaload, 1) := by sorry
theorem dL_law_725 : decode cL_law 725 = .ok (.invokevirtual 85, 3) := by sorry
theorem dL_law_728 : decode cL_law 728 = .ok (.if_icmp .eq 223, 3) := by sorry
theorem dL_law_731 : decode cL_law 731 = .ok (.iconst 0, 1) := by sorry
theorem dL_law_732 : decode cL_law 732 = .ok (.ireturn, 1) := by sorry
theorem dL_law_733 : decode cL_law 733 = .ok (.aload_n 1, 1) := by sorry
theorem dL_law_734 : decode cL_law 734 = .ok (.aload_n 0, 1) := by sorry
theorem dL_law_735 : decode cL_law 735 = .ok (.iload_n 3, 1) := by sorry
theorem dL_law_736 : decode cL_law 736 = .ok (.iconst 1, 1) := by sorry
theorem dL_law_737 : decode cL_law 737 = .ok (.iadd, 1) := by sorry
theorem dL_law_738 : decode cL_law 738 = .ok (.iaload, 1) := by sorry
theorem dL_law_739 : decode cL_law 739 = .ok (.aload_n 0, 1) := by sorry
theorem dL_law_740 : decode cL_law 740 = .ok (.iload_n 3, 1) := by sorry
theorem dL_law_741 : decode cL_law 741 = .ok (.iconst 2, 1) := by sorry
theorem dL_law_742 : decode cL_law 742 = .ok (.iadd, 1) := by sorry
theorem dL_law_743 : decode cL_law 743 = .ok (.iaload, 1) := by sorry
theorem dL_law_744 : decode cL_law 744 = .ok (.invokevirtual 86, 3) := by sorry
theorem dL_law_747 : decode cL_law 747 = .ok (.aload_n 2, 1) := by sorry
theorem dL_law_748 : decode cL_law 748 = .ok (.aload_n 0, 1) := by sorry
theorem dL_law_749 : decode cL_law 749 = .ok (.iload_n 3, 1) := by sorry
theorem dL_law_750 : decode cL_law 750 = .ok (.iconst 1, 1) := by sorry
theorem dL_law_751 : decode cL_law 751 = .ok (.iadd, 1) := by sorry
theorem dL_law_752 : decode cL_law 752 = .ok (.iaload, 1) := by sorry
theorem dL_law_753 : decode cL_law 753 = .ok (.aload_n 0, 1) := by sorry
theorem dL_law_754 : decode cL_law 754 = .ok (.iload_n 3, 1) := by sorry
theorem dL_law_755 : decode cL_law 755 = .ok (.iconst 2, 1) := by sorry
theorem dL_law_756 : decode cL_law 756 = .ok (.iadd, 1) := by sorry
theorem dL_law_757 : decode cL_law 757 = .ok (.iaload, 1) := by sorry
theorem dL_law_758 : decode cL_law 758 = .ok (.invokevirtual 89, 3) := by sorry
theorem dL_law_761 : decode cL_law 761 = .ok (.if_icmp .eq 190, 3) := by sorry
theorem dL_law_764 : decode cL_law 764 = .ok (.iconst 0, 1) := by sorry
theorem dL_law_765 : decode cL_law 765 = .ok (.ireturn, 1) := by sorry
theorem dL_law_766 : decode cL_law 766 = .ok (.aload_n 1, 1) := by sorry
theorem dL_law_767 : decode cL_law 767 = .ok (.aload_n 0, 1) := by sorry
theorem dL_law_768 : decode cL_law 768 = .ok (.iload_n 3, 1) := by sorry
theorem dL_law_769 : decode cL_law 769 = .ok (.iconst 1, 1) := by sorry
theorem dL_law_770 : decode cL_law 770 = .ok (.iadd, 1) := by sorry
theorem dL_law_771 : decode cL_law 771 = .ok (.iaload, 1) := by sorry
theorem dL_law_772 : decode cL_law 772 = .ok (.aload_n 0, 1) := by sorry
theorem dL_law_773 : decode cL_law 773 = .ok (.iload_n 3, 1) := by sorry
theorem dL_law_774 : decode cL_law 774 = .ok (.iconst 2, 1) := by sorry
theorem dL_law_775 : decode cL_law 775 = .ok (.iadd, 1) := by sorry
theorem dL_law_776 : decode cL_law 776 = .ok (.iaload, 1) := by sorry
theorem dL_law_777 : decode cL_law 777 = .ok (.aload_n 0, 1) := by sorry
theorem dL_law_778 : decode cL_law 778 = .ok (.iload_n 3, 1) := by sorry
theorem dL_law_779 : decode cL_law 779 = .ok (.iconst 3, 1) := by sorry
theorem dL_law_780 : decode cL_law 780 = .ok (.iadd, 1) := by sorry
theorem dL_law_781 : decode cL_law 781 = .ok (.iaload, 1) := by sorry
theorem dL_law_782 : decode cL_law 782 = .ok (.aload_n 0, 1) := by sorry
theorem dL_law_783 : decode cL_law 783 = .ok (.iload_n 3, 1) := by sorry
theorem dL_law_784 : decode cL_law 784 = .ok (.iconst 4, 1) := by sorry
theorem dL_law_785 : decode cL_law 785 = .ok (.iadd, 1) := by sorry
theorem dL_law_786 : decode cL_law 786 = .ok (.iaload, 1) := by sorry
theorem dL_law_787 : decode cL_law 787 = .ok (.aload_n 0, 1) := by sorry
theorem dL_law_788 : decode cL_law 788 = .ok (.iload_n 3, 1) := by sorry
theorem dL_law_789 : decode cL_law 789 = .ok (.iconst 5, 1) := by sorry
theorem dL_law_790 : decode cL_law 790 = .ok (.iadd, 1) := by sorry
theorem dL_law_791 : decode cL_law 791 = .ok (.iaload, 1) := by sorry
theorem dL_law_792 : decode cL_law 792 = .ok (.invokevirtual 90, 3) := by sorry
theorem dL_law_795 : decode cL_law 795 = .ok (.aload_n 2, 1) := by sorry
theorem dL_law_796 : decode cL_law 796 = .ok (.aload_n 0, 1) := by sorry
theorem dL_law_797 : decode cL_law 797 = .ok (.iload_n 3, 1) := by sorry
theorem dL_law_798 : decode cL_law 798 = .ok (.iconst 1, 1) := by sorry
theorem dL_law_799 : decode cL_law 799 = .ok (.iadd, 1) := by sorry
theorem dL_law_800 : decode cL_law 800 = .ok (.iaload, 1) := by sorry
theorem dL_law_801 : decode cL_law 801 = .ok (.aload_n 0, 1) := by sorry
theorem dL_law_802 : decode cL_law 802 = .ok (.iload_n 3, 1) := by sorry
theorem dL_law_803 : decode cL_law 803 = .ok (.iconst 2, 1) := by sorry
theorem dL_law_804 : decode cL_law 804 = .ok (.iadd, 1) := by sorry
theorem dL_law_805 : decode cL_law 805 = .ok (.iaload, 1) := by sorry
theorem dL_law_806 : decode cL_law 806 = .ok (.aload_n 0, 1) := by sorry
theorem dL_law_807 : decode cL_law 807 = .ok (.iload_n 3, 1) := by sorry
theorem dL_law_808 : decode cL_law 808 = .ok (.iconst 3, 1) := by sorry
theorem dL_law_809 : decode cL_law 809 = .ok (.iadd, 1) := by sorry
theorem dL_law_810 : decode cL_law 810 = .ok (.iaload, 1) := by sorry
theorem dL_law_811 : decode cL_law 811 = .ok (.aload_n 0, 1) := by sorry
theorem dL_law_812 : decode cL_law 812 = .ok (.iload_n 3, 1) := by sorry
theorem dL_law_813 : decode cL_law 813 = .ok (.iconst 4, 1) := by sorry
theorem dL_law_814 : decode cL_law 814 = .ok (.iadd, 1) := by sorry
theorem dL_law_815 : decode cL_law 815 = .ok (.iaload, 1) := by sorry
theorem dL_law_816 : decode cL_law 816 = .ok (.aload_n 0, 1) := by sorry
theorem dL_law_817 : decode cL_law 817 = .ok (.iload_n 3, 1) := by sorry
theorem dL_law_818 : decode cL_law 818 = .ok (.iconst 5, 1) := by sorry
theorem dL_law_819 : decode cL_law 819 = .ok (.iadd, 1) := by sorry
theorem dL_law_820 : decode cL_law 820 = .ok (.iaload, 1) := by sorry
theorem dL_law_821 : decode cL_law 821 = .ok (.invokevirtual 94, 3) := by sorry
theorem dL_law_824 : decode cL_law 824 = .ok (.if_icmp .eq 127, 3) := by sorry
theorem dL_law_827 : decode cL_law 827 = .ok (.iconst 0, 1) := by sorry
theorem dL_law_828 : decode cL_law 828 = .ok (.ireturn, 1) := by sorry
theorem dL_law_829 : decode cL_law 829 = .ok (.aload_n 1, 1) := by sorry
theorem dL_law_830 : decode cL_law 830 = .ok (.aload_n 0, 1) := by sorry
theorem dL_law_831 : decode cL_law 831 = .ok (.iload_n 3, 1) := by sorry
theorem dL_law_832 : decode cL_law 832 = .ok (.iconst 1, 1) := by sorry
theorem dL_law_833 : decode cL_law 833 = .ok (.iadd, 1) := by sorry
theorem dL_law_834 : decode cL_law 834 = .ok (.iaload, 1) := by sorry
theorem dL_law_835 : decode cL_law 835 = .ok (.invokevirtual 95, 3) := by sorry
theorem dL_law_838 : decode cL_law 838 = .ok (.aload_n 2, 1) := by sorry
theorem dL_law_839 : decode cL_law 839 = .ok (.aload_n 0, 1) := by sorry
theorem dL_law_840 : decode cL_law 840 = .ok (.iload_n 3, 1) := by sorry
theorem dL_law_841 : decode cL_law 841 = .ok (.iconst 1, 1) := by sorry
theorem dL_law_842 : decode cL_law 842 = .ok (.iadd, 1) := by sorry
theorem dL_law_843 : decode cL_law 843 = .ok (.iaload, 1) := by sorry
theorem dL_law_844 : decode cL_law 844 = .ok (.invokevirtual 98, 3) := by sorry
theorem dL_law_847 : decode cL_law 847 = .ok (.if_icmp .eq 104, 3) := by sorry
theorem dL_law_850 : decode cL_law 850 = .ok (.iconst 0, 1) := by sorry
theorem dL_law_851 : decode cL_law 851 = .ok (.ireturn, 1) := by sorry
theorem dL_law_852 : decode cL_law 852 = .ok (.aload_n 1, 1) := by sorry
theorem dL_law_853 : decode cL_law 853 = .ok (.invokevirtual 99, 3) := by sorry
theorem dL_law_856 : decode cL_law 856 = .ok (.aload_n 2, 1) := by sorry
theorem dL_law_857 : decode cL_law 857 = .ok (.invokevirtual 102, 3) := by sorry
theorem dL_law_860 : decode cL_law 860 = .ok (.if_icmp .eq 91, 3) := by sorry
theorem dL_law_863 : decode cL_law 863 = .ok (.iconst 0, 1) := by sorry
theorem dL_law_864 : decode cL_law 864 = .ok (.ireturn, 1) := by sorry
theorem dL_law_865 : decode cL_law 865 = .ok (.aload_n 1, 1) := by sorry
theorem dL_law_866 : decode cL_law 866 = .ok (.invokevirtual 103, 3) := by sorry
theorem dL_law_869 : decode cL_law 869 = .ok (.aload_n 2, 1) := by sorry
theorem dL_law_870 : decode cL_law 870 = .ok (.invokevirtual 106, 3) := by sorry
theorem dL_law_873 : decode cL_law 873 = .ok (.if_icmp .eq 78, 3) := by sorry
theorem dL_law_876 : decode cL_law 876 = .ok (.iconst 0, 1) := by sorry
theorem dL_law_877 : decode cL_law 877 = .ok (.ireturn, 1) := by sorry
theorem dL_law_878 : decode cL_law 878 = .ok (.aload_n 1, 1) := by sorry
theorem dL_law_879 : decode cL_law 879 = .ok (.aload_n 0, 1) := by sorry
theorem dL_law_880 : decode cL_law 880 = .ok (.iload_n 3, 1) := by sorry
theorem dL_law_881 : decode cL_law 881 = .ok (.iconst 1, 1) := by sorry
theorem dL_law_882 : decode cL_law 882 = .ok (.iadd, 1) := by sorry
theorem dL_law_883 : decode cL_law 883 = .ok (.iaload, 1) := by sorry
theorem dL_law_884 : decode cL_law 884 = .ok (.invokevirtual 107, 3) := by sorry
theorem dL_law_887 : decode cL_law 887 = .ok (.aload_n 2, 1) := by sorry
theorem dL_law_888 : decode cL_law 888 = .ok (.aload_n 0, 1) := by sorry
theorem dL_law_889 : decode cL_law 889 = .ok (.iload_n 3, 1) := by sorry
theorem dL_law_890 : decode cL_law 890 = .ok (.iconst 1, 1) := by sorry
theorem dL_law_891 : decode cL_law 891 = .ok (.iadd, 1) := by sorry
theorem dL_law_892 : decode cL_law 892 = .ok (.iaload, 1) := by sorry
theorem dL_law_893 : decode cL_law 893 = .ok (.invokevirtual 110, 3) := by sorry
theorem dL_law_896 : decode cL_law 896 = .ok (.if_icmp .eq 55, 3) := by sorry
theorem dL_law_899 : decode cL_law 899 = .ok (.iconst 0, 1) := by sorry
theorem dL_law_900 : decode cL_law 900 = .ok (.ireturn, 1) := by sorry
theorem dL_law_901 : decode cL_law 901 = .ok (.aload_n 1, 1) := by sorry
theorem dL_law_902 : decode cL_law 902 = .ok (.invokevirtual 111, 3) := by sorry
theorem dL_law_905 : decode cL_law 905 = .ok (.aload_n 2, 1) := by sorry
theorem dL_law_906 : decode cL_law 906 = .ok (.invokevirtual 114, 3) := by sorry
theorem dL_law_909 : decode cL_law 909 = .ok (.if_icmp .eq 42, 3) := by sorry
theorem dL_law_912 : decode cL_law 912 = .ok (.iconst 0, 1) := by sorry
theorem dL_law_913 : decode cL_law 913 = .ok (.ireturn, 1) := by sorry
theorem dL_law_914 : decode cL_law 914 = .ok (.aload_n 1, 1) := by sorry
theorem dL_law_915 : decode cL_law 915 = .ok (.aload_n 0, 1) := by sorry
theorem dL_law_916 : decode cL_law 916 = .ok (.iload_n 3, 1) := by sorry
theorem dL_law_917 : decode cL_law 917 = .ok (.iconst 1, 1) := by sorry
theorem dL_law_918 : decode cL_law 918 = .ok (.iadd, 1) := by sorry
theorem dL_law_919 : decode cL_law 919 = .ok (.iaload, 1) := by sorry
theorem dL_law_920 : decode cL_law 920 = .ok (.invokevirtual 115, 3) := by sorry
theorem dL_law_923 : decode cL_law 923 = .ok (.aload_n 2, 1) := by sorry
theorem dL_law_924 : decode cL_law 924 = .ok (.aload_n 0, 1) := by sorry
theorem dL_law_925 : decode cL_law 925 = .ok (.iload_n 3, 1) := by sorry
theorem dL_law_926 : decode cL_law 926 = .ok (.iconst 1, 1) := by sorry
theorem dL_law_927 : decode cL_law 927 = .ok (.iadd, 1) := by sorry
theorem dL_law_928 : decode cL_law 928 = .ok (.iaload, 1) := by sorry
theorem dL_law_929 : decode cL_law 929 = .ok (.invokevirtual 118, 3) := by sorry
theorem dL_law_932 : decode cL_law 932 = .ok (.if_icmp .eq 19, 3) := by sorry
theorem dL_law_935 : decode cL_law 935 = .ok (.iconst 0, 1) := by sorry
theorem dL_law_936 : decode cL_law 936 = .ok (.ireturn, 1) := by sorry
theorem dL_law_937 : decode cL_law 937 = .ok (.aload_n 1, 1) := by sorry
theorem dL_law_938 : decode cL_law 938 = .ok (.invokevirtual 119, 3) := by sorry
theorem dL_law_941 : decode cL_law 941 = .ok (.aload_n 2, 1) := by sorry
theorem dL_law_942 : decode cL_law 942 = .ok (.invokevirtual 123, 3) := by sorry
theorem dL_law_945 : decode cL_law 945 = .ok (.lcmp, 1) := by sorry
theorem dL_law_946 : decode cL_law 946 = .ok (.ifCond .eq 5, 3) := by sorry
theorem dL_law_949 : decode cL_law 949 = .ok (.iconst 0, 1) := by sorry
theorem dL_law_950 : decode cL_law 950 = .ok (.ireturn, 1) := by sorry
theorem dL_law_951 : decode cL_law 951 = .ok (.iinc 3 6, 3) := by sorry
theorem dL_law_954 : decode cL_law 954 = .ok (.goto (-936), 3) := by sorry
theorem dL_law_957 : decode cL_law 957 = .ok (.iconst 1, 1) := by sorry
theorem dL_law_958 : decode cL_law 958 = .ok (.ireturn, 1) := by sorry
abbrev vwCl : List vw_C := [(RX0, TX0, 3), (RX1, TX1, 2), (RX2, TX2, 4), (RX3, TX3, 7), (RX4, TX4, 7), (RX5, TX5, 2), (RX6, TX6, 5), (RX7, TX7, 13), (RX8, TX8, 24)]

