-- ===== RuleBuilderLaw.law([I)Z
def k_Law_law : rb_MK := (⟨"RuleBuilderLaw", "law", "([I)Z"⟩, code, 4, some (.boolean))
theorem iw_Law_12 : rb_Iw "RuleBuilderLaw" 12 k_M_init 0 := ⟨mw_M_init, rfl, rfl, rb_inG 1213 (by decide +kernel) rfl, Or.inl (rb_inG 1212 (by decide +kernel) rfl)⟩
theorem iw_Law_9 : rb_Iw "RuleBuilderLaw" 9 k_RB_init 0 := ⟨mw_RB_init, rfl, rfl, rb_inG 108 (by decide +kernel) rfl, Or.inl (rb_inG 107 (by decide +kernel) rfl)⟩
theorem ow_Law_10 : rb_Ow "RuleBuilderLaw" 10 13 := ⟨_, rfl, by decide, by decide, rb_inG 1210 (by decide +kernel) rfl, rb_ins13, rb_ini13, rfl, by decide⟩
theorem ow_Law_7 : rb_Ow "RuleBuilderLaw" 7 1 := ⟨_, rfl, by decide, by decide, rb_inG 105 (by decide +kernel) rfl, rb_ins1, rb_ini1, rfl, by decide⟩
theorem vw_Law_13 : rb_Vw "RuleBuilderLaw" 13 k_RB_type 1 1 := ⟨mw_RB_type, rb_inG 387 (by decide +kernel) rfl, rb_inG 388 (by decide +kernel) rfl, rb_inG 389 (by decide +kernel) rfl, by decide, by decide, _, rfl, rfl⟩
theorem vw_Law_17 : rb_Vw "RuleBuilderLaw" 17 k_M_type 13 1 := ⟨mw_M_type, rb_inG 1442 (by decide +kernel) rfl, rb_inG 1443 (by decide +kernel) rfl, rb_inG 1444 (by decide +kernel) rfl, by decide, by decide, _, rfl, rfl⟩
theorem vw_Law_18 : rb_Vw "RuleBuilderLaw" 18 k_RB_scrap 1 0 := ⟨mw_RB_scrap, rb_inG 395 (by decide +kernel) rfl, rb_inG 396 (by decide +kernel) rfl, rb_inG 397 (by decide +kernel) rfl, by decide, by decide, _, rfl, rfl⟩
theorem vw_Law_21 : rb_Vw "RuleBuilderLaw" 21 k_M_scrap 13 0 := ⟨mw_M_scrap, rb_inG 1446 (by decide +kernel) rfl, rb_inG 1447 (by decide +kernel) rfl, rb_inG 1448 (by decide +kernel) rfl, by decide, by decide, _, rfl, rfl⟩
theorem vw_Law_22 : rb_Vw "RuleBuilderLaw" 22 k_RB_set 1 0 := ⟨mw_RB_set, rb_inG 403 (by decide +kernel) rfl, rb_inG 404 (by decide +kernel) rfl, rb_inG 405 (by decide +kernel) rfl, by decide, by decide, _, rfl, rfl⟩
theorem vw_Law_26 : rb_Vw "RuleBuilderLaw" 26 k_M_set 13 0 := ⟨mw_M_set, rb_inG 1450 (by decide +kernel) rfl, rb_inG 1451 (by decide +kernel) rfl, rb_inG 1452 (by decide +kernel) rfl, by decide, by decide, _, rfl, rfl⟩
theorem vw_Law_27 : rb_Vw "RuleBuilderLaw" 27 k_RB_load 1 0 := ⟨mw_RB_load, rb_inG 523 (by decide +kernel) rfl, rb_inG 524 (by decide +kernel) rfl, rb_inG 525 (by decide +kernel) rfl, by decide, by decide, _, rfl, rfl⟩
theorem vw_Law_31 : rb_Vw "RuleBuilderLaw" 31 k_M_load 13 0 := ⟨mw_M_load, rb_inG 1493 (by decide +kernel) rfl, rb_inG 1494 (by decide +kernel) rfl, rb_inG 1495 (by decide +kernel) rfl, by decide, by decide, _, rfl, rfl⟩
theorem vw_Law_32 : rb_Vw "RuleBuilderLaw" 32 k_RB_edit 1 1 := ⟨mw_RB_edit, rb_inG 992 (by decide +kernel) rfl, rb_inG 993 (by decide +kernel) rfl, rb_inG 994 (by decide +kernel) rfl, by decide, by decide, _, rfl, rfl⟩
theorem vw_Law_36 : rb_Vw "RuleBuilderLaw" 36 k_M_edit 13 1 := ⟨mw_M_edit, rb_inG 1457 (by decide +kernel) rfl, rb_inG 1458 (by decide +kernel) rfl, rb_inG 1459 (by decide +kernel) rfl, by decide, by decide, _, rfl, rfl⟩
theorem vw_Law_37 : rb_Vw "RuleBuilderLaw" 37 k_RB_erase 1 0 := ⟨mw_RB_erase, rb_inG 1001 (by decide +kernel) rfl, rb_inG 1002 (by decide +kernel) rfl, rb_inG 1003 (by decide +kernel) rfl, by decide, by decide, _, rfl, rfl⟩
theorem vw_Law_40 : rb_Vw "RuleBuilderLaw" 40 k_M_erase 13 0 := ⟨mw_M_erase, rb_inG 1485 (by decide +kernel) rfl, rb_inG 1486 (by decide +kernel) rfl, rb_inG 1487 (by decide +kernel) rfl, by decide, by decide, _, rfl, rfl⟩
theorem vw_Law_41 : rb_Vw "RuleBuilderLaw" 41 k_RB_build 1 1 := ⟨mw_RB_build, rb_inG 1014 (by decide +kernel) rfl, rb_inG 1015 (by decide +kernel) rfl, rb_inG 1016 (by decide +kernel) rfl, by decide, by decide, _, rfl, rfl⟩
theorem vw_Law_44 : rb_Vw "RuleBuilderLaw" 44 k_M_build 13 1 := ⟨mw_M_build, rb_inG 1611 (by decide +kernel) rfl, rb_inG 1612 (by decide +kernel) rfl, rb_inG 1613 (by decide +kernel) rfl, by decide, by decide, _, rfl, rfl⟩
theorem vw_Law_45 : rb_Vw "RuleBuilderLaw" 45 k_RB_names 1 0 := ⟨mw_RB_names, rb_inG 1168 (by decide +kernel) rfl, rb_inG 1169 (by decide +kernel) rfl, rb_inG 1170 (by decide +kernel) rfl, by decide, by decide, _, rfl, rfl⟩
theorem vw_Law_48 : rb_Vw "RuleBuilderLaw" 48 k_M_names 13 0 := ⟨mw_M_names, rb_inG 1690 (by decide +kernel) rfl, rb_inG 1691 (by decide +kernel) rfl, rb_inG 1692 (by decide +kernel) rfl, by decide, by decide, _, rfl, rfl⟩
theorem vw_Law_49 : rb_Vw "RuleBuilderLaw" 49 k_RB_nameAt 1 2 := ⟨mw_RB_nameAt, rb_inG 1176 (by decide +kernel) rfl, rb_inG 1177 (by decide +kernel) rfl, rb_inG 1178 (by decide +kernel) rfl, by decide, by decide, _, rfl, rfl⟩
theorem vw_Law_53 : rb_Vw "RuleBuilderLaw" 53 k_M_nameAt 13 2 := ⟨mw_M_nameAt, rb_inG 1694 (by decide +kernel) rfl, rb_inG 1695 (by decide +kernel) rfl, rb_inG 1696 (by decide +kernel) rfl, by decide, by decide, _, rfl, rfl⟩
theorem vw_Law_54 : rb_Vw "RuleBuilderLaw" 54 k_RB_time 1 1 := ⟨mw_RB_time, rb_inG 1186 (by decide +kernel) rfl, rb_inG 1187 (by decide +kernel) rfl, rb_inG 1188 (by decide +kernel) rfl, by decide, by decide, _, rfl, rfl⟩
theorem vw_Law_57 : rb_Vw "RuleBuilderLaw" 57 k_M_time 13 1 := ⟨mw_M_time, rb_inG 1698 (by decide +kernel) rfl, rb_inG 1699 (by decide +kernel) rfl, rb_inG 1700 (by decide +kernel) rfl, by decide, by decide, _, rfl, rfl⟩
theorem vw_Law_58 : rb_Vw "RuleBuilderLaw" 58 k_RB_content 1 1 := ⟨mw_RB_content, rb_inG 1190 (by decide +kernel) rfl, rb_inG 1191 (by decide +kernel) rfl, rb_inG 1192 (by decide +kernel) rfl, by decide, by decide, _, rfl, rfl⟩
theorem vw_Law_61 : rb_Vw "RuleBuilderLaw" 61 k_M_content 13 1 := ⟨mw_M_content, rb_inG 1702 (by decide +kernel) rfl, rb_inG 1703 (by decide +kernel) rfl, rb_inG 1704 (by decide +kernel) rfl, by decide, by decide, _, rfl, rfl⟩
theorem vw_Law_62 : rb_Vw "RuleBuilderLaw" 62 k_RB_fate 1 1 := ⟨mw_RB_fate, rb_inG 1194 (by decide +kernel) rfl, rb_inG 1195 (by decide +kernel) rfl, rb_inG 1196 (by decide +kernel) rfl, by decide, by decide, _, rfl, rfl⟩
theorem vw_Law_65 : rb_Vw "RuleBuilderLaw" 65 k_M_fate 13 1 := ⟨mw_M_fate, rb_inG 1706 (by decide +kernel) rfl, rb_inG 1707 (by decide +kernel) rfl, rb_inG 1708 (by decide +kernel) rfl, by decide, by decide, _, rfl, rfl⟩
theorem vw_Law_66 : rb_Vw "RuleBuilderLaw" 66 k_RB_done 1 0 := ⟨mw_RB_done, rb_inG 1198 (by decide +kernel) rfl, rb_inG 1199 (by decide +kernel) rfl, rb_inG 1200 (by decide +kernel) rfl, by decide, by decide, _, rfl, rfl⟩
theorem vw_Law_69 : rb_Vw "RuleBuilderLaw" 69 k_M_done 13 0 := ⟨mw_M_done, rb_inG 1710 (by decide +kernel) rfl, rb_inG 1711 (by decide +kernel) rfl, rb_inG 1712 (by decide +kernel) rfl, by decide, by decide, _, rfl, rfl⟩
theorem vw_Law_70 : rb_Vw "RuleBuilderLaw" 70 k_RB_printed 1 0 := ⟨mw_RB_printed, rb_inG 1202 (by decide +kernel) rfl, rb_inG 1203 (by decide +kernel) rfl, rb_inG 1204 (by decide +kernel) rfl, by decide, by decide, _, rfl, rfl⟩
theorem vw_Law_73 : rb_Vw "RuleBuilderLaw" 73 k_M_printed 13 0 := ⟨mw_M_printed, rb_inG 1714 (by decide +kernel) rfl, rb_inG 1715 (by decide +kernel) rfl, rb_inG 1716 (by decide +kernel) rfl, by decide, by decide, _, rfl, rfl⟩
theorem vw_Law_74 : rb_Vw "RuleBuilderLaw" 74 k_RB_printedAt 1 1 := ⟨mw_RB_printedAt, rb_inG 1206 (by decide +kernel) rfl, rb_inG 1207 (by decide +kernel) rfl, rb_inG 1208 (by decide +kernel) rfl, by decide, by decide, _, rfl, rfl⟩
theorem vw_Law_77 : rb_Vw "RuleBuilderLaw" 77 k_M_printedAt 13 1 := ⟨mw_M_printedAt, rb_inG 1718 (by decide +kernel) rfl, rb_inG 1719 (by decide +kernel) rfl, rb_inG 1720 (by decide +kernel) rfl, by decide, by decide, _, rfl, rfl⟩
theorem d_Law_law_0 : decode code 0 = .ok (.new 7, 3) := by decide +kernel
theorem d_Law_law_3 : decode code 3 = .ok (.dup, 1) := by decide +kernel
theorem d_Law_law_4 : decode code 4 = .ok (.invokespecial 9, 3) := by decide +kernel
theorem d_Law_law_7 : decode code 7 = .ok (.astore_n 1, 1) := by decide +kernel
theorem d_Law_law_8 : decode code 8 = .ok (.new 10, 3) := by decide +kernel
theorem d_Law_law_11 : decode code 11 = .ok (.dup, 1) := by decide +kernel
theorem d_Law_law_12 : decode code 12 = .ok (.invokespecial 12, 3) := by decide +kernel
theorem d_Law_law_15 : decode code 15 = .ok (.astore_n 2, 1) := by decide +kernel
theorem d_Law_law_16 : decode code 16 = .ok (.iconst 0, 1) := by decide +kernel
theorem d_Law_law_17 : decode code 17 = .ok (.istore_n 3, 1) := by decide +kernel
theorem d_Law_law_18 : decode code 18 = .ok (.iload_n 3, 1) := by decide +kernel
theorem d_Law_law_19 : decode code 19 = .ok (.aload_n 0, 1) := by decide +kernel
theorem d_Law_law_20 : decode code 20 = .ok (.arraylength, 1) := by decide +kernel
theorem d_Law_law_21 : decode code 21 = .ok (.iconst 3, 1) := by decide +kernel
theorem d_Law_law_22 : decode code 22 = .ok (.isub, 1) := by decide +kernel
theorem d_Law_law_23 : decode code 23 = .ok (.if_icmp .gt 376, 3) := by decide +kernel
theorem d_Law_law_26 : decode code 26 = .ok (.aload_n 0, 1) := by decide +kernel
theorem d_Law_law_27 : decode code 27 = .ok (.iload_n 3, 1) := by decide +kernel
theorem d_Law_law_28 : decode code 28 = .ok (.iaload, 1) := by decide +kernel
theorem d_Law_law_29 : decode code 29 = .ok (.bipush 15, 2) := by decide +kernel
theorem d_Law_law_31 : decode code 31 = .ok (.iand, 1) := by decide +kernel
theorem d_Law_law_32 : decode code 32 = .ok (.tableswitch 361 0 14 #[76, 101, 112, 125, 138, 161, 174, 197, 210, 243, 266, 289, 312, 325, 338], 76) := by decide +kernel
theorem d_Law_law_108 : decode code 108 = .ok (.aload_n 1, 1) := by decide +kernel
theorem d_Law_law_109 : decode code 109 = .ok (.aload_n 0, 1) := by decide +kernel
theorem d_Law_law_110 : decode code 110 = .ok (.iload_n 3, 1) := by decide +kernel
theorem d_Law_law_111 : decode code 111 = .ok (.iconst 1, 1) := by decide +kernel
theorem d_Law_law_112 : decode code 112 = .ok (.iadd, 1) := by decide +kernel
theorem d_Law_law_113 : decode code 113 = .ok (.iaload, 1) := by decide +kernel
theorem d_Law_law_114 : decode code 114 = .ok (.i2c, 1) := by decide +kernel
theorem d_Law_law_115 : decode code 115 = .ok (.invokevirtual 13, 3) := by decide +kernel
theorem d_Law_law_118 : decode code 118 = .ok (.aload_n 2, 1) := by decide +kernel
theorem d_Law_law_119 : decode code 119 = .ok (.aload_n 0, 1) := by decide +kernel
theorem d_Law_law_120 : decode code 120 = .ok (.iload_n 3, 1) := by decide +kernel
theorem d_Law_law_121 : decode code 121 = .ok (.iconst 1, 1) := by decide +kernel
theorem d_Law_law_122 : decode code 122 = .ok (.iadd, 1) := by decide +kernel
theorem d_Law_law_123 : decode code 123 = .ok (.iaload, 1) := by decide +kernel
theorem d_Law_law_124 : decode code 124 = .ok (.i2c, 1) := by decide +kernel
theorem d_Law_law_125 : decode code 125 = .ok (.invokevirtual 17, 3) := by decide +kernel
theorem d_Law_law_128 : decode code 128 = .ok (.if_icmp .eq 265, 3) := by decide +kernel
theorem d_Law_law_131 : decode code 131 = .ok (.iconst 0, 1) := by decide +kernel
theorem d_Law_law_132 : decode code 132 = .ok (.ireturn, 1) := by decide +kernel
theorem d_Law_law_133 : decode code 133 = .ok (.aload_n 1, 1) := by decide +kernel
theorem d_Law_law_134 : decode code 134 = .ok (.invokevirtual 18, 3) := by decide +kernel
theorem d_Law_law_137 : decode code 137 = .ok (.aload_n 2, 1) := by decide +kernel
theorem d_Law_law_138 : decode code 138 = .ok (.invokevirtual 21, 3) := by decide +kernel
theorem d_Law_law_141 : decode code 141 = .ok (.goto 252, 3) := by decide +kernel
theorem d_Law_law_144 : decode code 144 = .ok (.aload_n 1, 1) := by decide +kernel
theorem d_Law_law_145 : decode code 145 = .ok (.invokevirtual 22, 3) := by decide +kernel
theorem d_Law_law_148 : decode code 148 = .ok (.aload_n 2, 1) := by decide +kernel
theorem d_Law_law_149 : decode code 149 = .ok (.invokevirtual 26, 3) := by decide +kernel
theorem d_Law_law_152 : decode code 152 = .ok (.if_icmp .eq 241, 3) := by decide +kernel
theorem d_Law_law_155 : decode code 155 = .ok (.iconst 0, 1) := by decide +kernel
theorem d_Law_law_156 : decode code 156 = .ok (.ireturn, 1) := by decide +kernel
theorem d_Law_law_157 : decode code 157 = .ok (.aload_n 1, 1) := by decide +kernel
theorem d_Law_law_158 : decode code 158 = .ok (.invokevirtual 27, 3) := by decide +kernel
theorem d_Law_law_161 : decode code 161 = .ok (.aload_n 2, 1) := by decide +kernel
theorem d_Law_law_162 : decode code 162 = .ok (.invokevirtual 31, 3) := by decide +kernel
theorem d_Law_law_165 : decode code 165 = .ok (.if_icmp .eq 228, 3) := by decide +kernel
theorem d_Law_law_168 : decode code 168 = .ok (.iconst 0, 1) := by decide +kernel
theorem d_Law_law_169 : decode code 169 = .ok (.ireturn, 1) := by decide +kernel
theorem d_Law_law_170 : decode code 170 = .ok (.aload_n 1, 1) := by decide +kernel
theorem d_Law_law_171 : decode code 171 = .ok (.aload_n 0, 1) := by decide +kernel
theorem d_Law_law_172 : decode code 172 = .ok (.iload_n 3, 1) := by decide +kernel
theorem d_Law_law_173 : decode code 173 = .ok (.iconst 1, 1) := by decide +kernel
theorem d_Law_law_174 : decode code 174 = .ok (.iadd, 1) := by decide +kernel
theorem d_Law_law_175 : decode code 175 = .ok (.iaload, 1) := by decide +kernel
theorem d_Law_law_176 : decode code 176 = .ok (.invokevirtual 32, 3) := by decide +kernel
theorem d_Law_law_179 : decode code 179 = .ok (.aload_n 2, 1) := by decide +kernel
theorem d_Law_law_180 : decode code 180 = .ok (.aload_n 0, 1) := by decide +kernel
theorem d_Law_law_181 : decode code 181 = .ok (.iload_n 3, 1) := by decide +kernel
theorem d_Law_law_182 : decode code 182 = .ok (.iconst 1, 1) := by decide +kernel
theorem d_Law_law_183 : decode code 183 = .ok (.iadd, 1) := by decide +kernel
theorem d_Law_law_184 : decode code 184 = .ok (.iaload, 1) := by decide +kernel
theorem d_Law_law_185 : decode code 185 = .ok (.invokevirtual 36, 3) := by decide +kernel
theorem d_Law_law_188 : decode code 188 = .ok (.if_icmp .eq 205, 3) := by decide +kernel
theorem d_Law_law_191 : decode code 191 = .ok (.iconst 0, 1) := by decide +kernel
theorem d_Law_law_192 : decode code 192 = .ok (.ireturn, 1) := by decide +kernel
theorem d_Law_law_193 : decode code 193 = .ok (.aload_n 1, 1) := by decide +kernel
theorem d_Law_law_194 : decode code 194 = .ok (.invokevirtual 37, 3) := by decide +kernel
theorem d_Law_law_197 : decode code 197 = .ok (.aload_n 2, 1) := by decide +kernel
theorem d_Law_law_198 : decode code 198 = .ok (.invokevirtual 40, 3) := by decide +kernel
theorem d_Law_law_201 : decode code 201 = .ok (.if_icmp .eq 192, 3) := by decide +kernel
theorem d_Law_law_204 : decode code 204 = .ok (.iconst 0, 1) := by decide +kernel
theorem d_Law_law_205 : decode code 205 = .ok (.ireturn, 1) := by decide +kernel
theorem d_Law_law_206 : decode code 206 = .ok (.aload_n 1, 1) := by decide +kernel
theorem d_Law_law_207 : decode code 207 = .ok (.aload_n 0, 1) := by decide +kernel
theorem d_Law_law_208 : decode code 208 = .ok (.iload_n 3, 1) := by decide +kernel
theorem d_Law_law_209 : decode code 209 = .ok (.iconst 1, 1) := by decide +kernel
theorem d_Law_law_210 : decode code 210 = .ok (.iadd, 1) := by decide +kernel
theorem d_Law_law_211 : decode code 211 = .ok (.iaload, 1) := by decide +kernel
theorem d_Law_law_212 : decode code 212 = .ok (.invokevirtual 41, 3) := by decide +kernel
theorem d_Law_law_215 : decode code 215 = .ok (.aload_n 2, 1) := by decide +kernel
theorem d_Law_law_216 : decode code 216 = .ok (.aload_n 0, 1) := by decide +kernel
theorem d_Law_law_217 : decode code 217 = .ok (.iload_n 3, 1) := by decide +kernel
theorem d_Law_law_218 : decode code 218 = .ok (.iconst 1, 1) := by decide +kernel
theorem d_Law_law_219 : decode code 219 = .ok (.iadd, 1) := by decide +kernel
theorem d_Law_law_220 : decode code 220 = .ok (.iaload, 1) := by decide +kernel
theorem d_Law_law_221 : decode code 221 = .ok (.invokevirtual 44, 3) := by decide +kernel
theorem d_Law_law_224 : decode code 224 = .ok (.if_icmp .eq 169, 3) := by decide +kernel
theorem d_Law_law_227 : decode code 227 = .ok (.iconst 0, 1) := by decide +kernel
theorem d_Law_law_228 : decode code 228 = .ok (.ireturn, 1) := by decide +kernel
theorem d_Law_law_229 : decode code 229 = .ok (.aload_n 1, 1) := by decide +kernel
theorem d_Law_law_230 : decode code 230 = .ok (.invokevirtual 45, 3) := by decide +kernel
theorem d_Law_law_233 : decode code 233 = .ok (.aload_n 2, 1) := by decide +kernel
theorem d_Law_law_234 : decode code 234 = .ok (.invokevirtual 48, 3) := by decide +kernel
theorem d_Law_law_237 : decode code 237 = .ok (.if_icmp .eq 156, 3) := by decide +kernel
theorem d_Law_law_240 : decode code 240 = .ok (.iconst 0, 1) := by decide +kernel
theorem d_Law_law_241 : decode code 241 = .ok (.ireturn, 1) := by decide +kernel
theorem d_Law_law_242 : decode code 242 = .ok (.aload_n 1, 1) := by decide +kernel
theorem d_Law_law_243 : decode code 243 = .ok (.aload_n 0, 1) := by decide +kernel
theorem d_Law_law_244 : decode code 244 = .ok (.iload_n 3, 1) := by decide +kernel
theorem d_Law_law_245 : decode code 245 = .ok (.iconst 1, 1) := by decide +kernel
theorem d_Law_law_246 : decode code 246 = .ok (.iadd, 1) := by decide +kernel
theorem d_Law_law_247 : decode code 247 = .ok (.iaload, 1) := by decide +kernel
theorem d_Law_law_248 : decode code 248 = .ok (.aload_n 0, 1) := by decide +kernel
theorem d_Law_law_249 : decode code 249 = .ok (.iload_n 3, 1) := by decide +kernel
theorem d_Law_law_250 : decode code 250 = .ok (.iconst 2, 1) := by decide +kernel
theorem d_Law_law_251 : decode code 251 = .ok (.iadd, 1) := by decide +kernel
theorem d_Law_law_252 : decode code 252 = .ok (.iaload, 1) := by decide +kernel
theorem d_Law_law_253 : decode code 253 = .ok (.invokevirtual 49, 3) := by decide +kernel
theorem d_Law_law_256 : decode code 256 = .ok (.aload_n 2, 1) := by decide +kernel
theorem d_Law_law_257 : decode code 257 = .ok (.aload_n 0, 1) := by decide +kernel
theorem d_Law_law_258 : decode code 258 = .ok (.iload_n 3, 1) := by decide +kernel
theorem d_Law_law_259 : decode code 259 = .ok (.iconst 1, 1) := by decide +kernel
theorem d_Law_law_260 : decode code 260 = .ok (.iadd, 1) := by decide +kernel
theorem d_Law_law_261 : decode code 261 = .ok (.iaload, 1) := by decide +kernel
theorem d_Law_law_262 : decode code 262 = .ok (.aload_n 0, 1) := by decide +kernel
theorem d_Law_law_263 : decode code 263 = .ok (.iload_n 3, 1) := by decide +kernel
theorem d_Law_law_264 : decode code 264 = .ok (.iconst 2, 1) := by decide +kernel
theorem d_Law_law_265 : decode code 265 = .ok (.iadd, 1) := by decide +kernel
theorem d_Law_law_266 : decode code 266 = .ok (.iaload, 1) := by decide +kernel
theorem d_Law_law_267 : decode code 267 = .ok (.invokevirtual 53, 3) := by decide +kernel
theorem d_Law_law_270 : decode code 270 = .ok (.if_icmp .eq 123, 3) := by decide +kernel
theorem d_Law_law_273 : decode code 273 = .ok (.iconst 0, 1) := by decide +kernel
theorem d_Law_law_274 : decode code 274 = .ok (.ireturn, 1) := by decide +kernel
theorem d_Law_law_275 : decode code 275 = .ok (.aload_n 1, 1) := by decide +kernel
theorem d_Law_law_276 : decode code 276 = .ok (.aload_n 0, 1) := by decide +kernel
theorem d_Law_law_277 : decode code 277 = .ok (.iload_n 3, 1) := by decide +kernel
theorem d_Law_law_278 : decode code 278 = .ok (.iconst 1, 1) := by decide +kernel
theorem d_Law_law_279 : decode code 279 = .ok (.iadd, 1) := by decide +kernel
theorem d_Law_law_280 : decode code 280 = .ok (.iaload, 1) := by decide +kernel
theorem d_Law_law_281 : decode code 281 = .ok (.invokevirtual 54, 3) := by decide +kernel
theorem d_Law_law_284 : decode code 284 = .ok (.aload_n 2, 1) := by decide +kernel
theorem d_Law_law_285 : decode code 285 = .ok (.aload_n 0, 1) := by decide +kernel
theorem d_Law_law_286 : decode code 286 = .ok (.iload_n 3, 1) := by decide +kernel
theorem d_Law_law_287 : decode code 287 = .ok (.iconst 1, 1) := by decide +kernel
theorem d_Law_law_288 : decode code 288 = .ok (.iadd, 1) := by decide +kernel
theorem d_Law_law_289 : decode code 289 = .ok (.iaload, 1) := by decide +kernel
theorem d_Law_law_290 : decode code 290 = .ok (.invokevirtual 57, 3) := by decide +kernel
theorem d_Law_law_293 : decode code 293 = .ok (.if_icmp .eq 100, 3) := by decide +kernel
theorem d_Law_law_296 : decode code 296 = .ok (.iconst 0, 1) := by decide +kernel
theorem d_Law_law_297 : decode code 297 = .ok (.ireturn, 1) := by decide +kernel
theorem d_Law_law_298 : decode code 298 = .ok (.aload_n 1, 1) := by decide +kernel
theorem d_Law_law_299 : decode code 299 = .ok (.aload_n 0, 1) := by decide +kernel
theorem d_Law_law_300 : decode code 300 = .ok (.iload_n 3, 1) := by decide +kernel
theorem d_Law_law_301 : decode code 301 = .ok (.iconst 1, 1) := by decide +kernel
theorem d_Law_law_302 : decode code 302 = .ok (.iadd, 1) := by decide +kernel
theorem d_Law_law_303 : decode code 303 = .ok (.iaload, 1) := by decide +kernel
theorem d_Law_law_304 : decode code 304 = .ok (.invokevirtual 58, 3) := by decide +kernel
theorem d_Law_law_307 : decode code 307 = .ok (.aload_n 2, 1) := by decide +kernel
theorem d_Law_law_308 : decode code 308 = .ok (.aload_n 0, 1) := by decide +kernel
theorem d_Law_law_309 : decode code 309 = .ok (.iload_n 3, 1) := by decide +kernel
theorem d_Law_law_310 : decode code 310 = .ok (.iconst 1, 1) := by decide +kernel
theorem d_Law_law_311 : decode code 311 = .ok (.iadd, 1) := by decide +kernel
theorem d_Law_law_312 : decode code 312 = .ok (.iaload, 1) := by decide +kernel
theorem d_Law_law_313 : decode code 313 = .ok (.invokevirtual 61, 3) := by decide +kernel
theorem d_Law_law_316 : decode code 316 = .ok (.if_icmp .eq 77, 3) := by decide +kernel
theorem d_Law_law_319 : decode code 319 = .ok (.iconst 0, 1) := by decide +kernel
theorem d_Law_law_320 : decode code 320 = .ok (.ireturn, 1) := by decide +kernel
theorem d_Law_law_321 : decode code 321 = .ok (.aload_n 1, 1) := by decide +kernel
theorem d_Law_law_322 : decode code 322 = .ok (.aload_n 0, 1) := by decide +kernel
theorem d_Law_law_323 : decode code 323 = .ok (.iload_n 3, 1) := by decide +kernel
theorem d_Law_law_324 : decode code 324 = .ok (.iconst 1, 1) := by decide +kernel
theorem d_Law_law_325 : decode code 325 = .ok (.iadd, 1) := by decide +kernel
theorem d_Law_law_326 : decode code 326 = .ok (.iaload, 1) := by decide +kernel
theorem d_Law_law_327 : decode code 327 = .ok (.invokevirtual 62, 3) := by decide +kernel
theorem d_Law_law_330 : decode code 330 = .ok (.aload_n 2, 1) := by decide +kernel
theorem d_Law_law_331 : decode code 331 = .ok (.aload_n 0, 1) := by decide +kernel
theorem d_Law_law_332 : decode code 332 = .ok (.iload_n 3, 1) := by decide +kernel
theorem d_Law_law_333 : decode code 333 = .ok (.iconst 1, 1) := by decide +kernel
theorem d_Law_law_334 : decode code 334 = .ok (.iadd, 1) := by decide +kernel
theorem d_Law_law_335 : decode code 335 = .ok (.iaload, 1) := by decide +kernel
theorem d_Law_law_336 : decode code 336 = .ok (.invokevirtual 65, 3) := by decide +kernel
theorem d_Law_law_339 : decode code 339 = .ok (.if_icmp .eq 54, 3) := by decide +kernel
theorem d_Law_law_342 : decode code 342 = .ok (.iconst 0, 1) := by decide +kernel
theorem d_Law_law_343 : decode code 343 = .ok (.ireturn, 1) := by decide +kernel
theorem d_Law_law_344 : decode code 344 = .ok (.aload_n 1, 1) := by decide +kernel
theorem d_Law_law_345 : decode code 345 = .ok (.invokevirtual 66, 3) := by decide +kernel
theorem d_Law_law_348 : decode code 348 = .ok (.aload_n 2, 1) := by decide +kernel
theorem d_Law_law_349 : decode code 349 = .ok (.invokevirtual 69, 3) := by decide +kernel
theorem d_Law_law_352 : decode code 352 = .ok (.if_icmp .eq 41, 3) := by decide +kernel
theorem d_Law_law_355 : decode code 355 = .ok (.iconst 0, 1) := by decide +kernel
theorem d_Law_law_356 : decode code 356 = .ok (.ireturn, 1) := by decide +kernel
theorem d_Law_law_357 : decode code 357 = .ok (.aload_n 1, 1) := by decide +kernel
theorem d_Law_law_358 : decode code 358 = .ok (.invokevirtual 70, 3) := by decide +kernel
theorem d_Law_law_361 : decode code 361 = .ok (.aload_n 2, 1) := by decide +kernel
theorem d_Law_law_362 : decode code 362 = .ok (.invokevirtual 73, 3) := by decide +kernel
theorem d_Law_law_365 : decode code 365 = .ok (.if_icmp .eq 28, 3) := by decide +kernel
theorem d_Law_law_368 : decode code 368 = .ok (.iconst 0, 1) := by decide +kernel
theorem d_Law_law_369 : decode code 369 = .ok (.ireturn, 1) := by decide +kernel
theorem d_Law_law_370 : decode code 370 = .ok (.aload_n 1, 1) := by decide +kernel
theorem d_Law_law_371 : decode code 371 = .ok (.aload_n 0, 1) := by decide +kernel
theorem d_Law_law_372 : decode code 372 = .ok (.iload_n 3, 1) := by decide +kernel
theorem d_Law_law_373 : decode code 373 = .ok (.iconst 1, 1) := by decide +kernel
theorem d_Law_law_374 : decode code 374 = .ok (.iadd, 1) := by decide +kernel
theorem d_Law_law_375 : decode code 375 = .ok (.iaload, 1) := by decide +kernel
theorem d_Law_law_376 : decode code 376 = .ok (.invokevirtual 74, 3) := by decide +kernel
theorem d_Law_law_379 : decode code 379 = .ok (.aload_n 2, 1) := by decide +kernel
theorem d_Law_law_380 : decode code 380 = .ok (.aload_n 0, 1) := by decide +kernel
theorem d_Law_law_381 : decode code 381 = .ok (.iload_n 3, 1) := by decide +kernel
theorem d_Law_law_382 : decode code 382 = .ok (.iconst 1, 1) := by decide +kernel
theorem d_Law_law_383 : decode code 383 = .ok (.iadd, 1) := by decide +kernel
theorem d_Law_law_384 : decode code 384 = .ok (.iaload, 1) := by decide +kernel
theorem d_Law_law_385 : decode code 385 = .ok (.invokevirtual 77, 3) := by decide +kernel
theorem d_Law_law_388 : decode code 388 = .ok (.if_icmp .eq 5, 3) := by decide +kernel
theorem d_Law_law_391 : decode code 391 = .ok (.iconst 0, 1) := by decide +kernel
theorem d_Law_law_392 : decode code 392 = .ok (.ireturn, 1) := by decide +kernel
theorem d_Law_law_393 : decode code 393 = .ok (.iinc 3 3, 3) := by decide +kernel
theorem d_Law_law_396 : decode code 396 = .ok (.goto (-378), 3) := by decide +kernel
theorem d_Law_law_399 : decode code 399 = .ok (.iconst 1, 1) := by decide +kernel
theorem d_Law_law_400 : decode code 400 = .ok (.ireturn, 1) := by decide +kernel
noncomputable def f_Law_law_b18 (r0 : Option Nat) (r1 : Option Nat) (r2 : Option Nat) (x3 : Int32) (σ : rb_St) : Option ((Int32 × rb_St) ⊕ rb_Rs) :=
  (rb_len σ r0 102).bind fun x_3 => if (x_3 - (3 : Int32)) < x3 then ((some (some (.int (1 : Int32)), σ)).map Sum.inr) else ((rb_aI σ r0 102 x3).bind fun x_4 => if (x_4 &&& (15 : Int32)) = 0 then ((rb_aI σ r0 102 (x3 + (1 : Int32))).bind fun x_6 => (rb_fc σ r1 1).bind fun _ => rb_cI (f_RB_type (r1) (((x_6.toUInt32 % 65536).toInt32)) σ) fun x_7 σ_8 => (rb_aI σ_8 r0 102 (x3 + (1 : Int32))).bind fun x_9 => (rb_fc σ_8 r2 13).bind fun _ => rb_cI (f_M_type (r2) (((x_9.toUInt32 % 65536).toInt32)) σ_8) fun x_10 σ_11 => if x_7 = x_10 then (some (.inl ((x3 + 3), σ_11))) else ((some (some (.int (0 : Int32)), σ_11)).map Sum.inr)) else if (x_4 &&& (15 : Int32)) = 1 then ((rb_fc σ r1 1).bind fun _ => rb_cV (f_RB_scrap (r1)  σ) fun σ_13 => (rb_fc σ_13 r2 13).bind fun _ => rb_cV (f_M_scrap (r2)  σ_13) fun σ_14 => some (.inl ((x3 + 3), σ_14))) else if (x_4 &&& (15 : Int32)) = 2 then ((rb_fc σ r1 1).bind fun _ => rb_cI (f_RB_set (r1)  σ) fun x_16 σ_17 => (rb_fc σ_17 r2 13).bind fun _ => rb_cI (f_M_set (r2)  σ_17) fun x_18 σ_19 => if x_16 = x_18 then (some (.inl ((x3 + 3), σ_19))) else ((some (some (.int (0 : Int32)), σ_19)).map Sum.inr)) else if (x_4 &&& (15 : Int32)) = 3 then ((rb_fc σ r1 1).bind fun _ => rb_cI (f_RB_load (r1)  σ) fun x_21 σ_22 => (rb_fc σ_22 r2 13).bind fun _ => rb_cI (f_M_load (r2)  σ_22) fun x_23 σ_24 => if x_21 = x_23 then (some (.inl ((x3 + 3), σ_24))) else ((some (some (.int (0 : Int32)), σ_24)).map Sum.inr)) else if (x_4 &&& (15 : Int32)) = 4 then ((rb_aI σ r0 102 (x3 + (1 : Int32))).bind fun x_26 => (rb_fc σ r1 1).bind fun _ => rb_cI (f_RB_edit (r1) (x_26) σ) fun x_27 σ_28 => (rb_aI σ_28 r0 102 (x3 + (1 : Int32))).bind fun x_29 => (rb_fc σ_28 r2 13).bind fun _ => rb_cI (f_M_edit (r2) (x_29) σ_28) fun x_30 σ_31 => if x_27 = x_30 then (some (.inl ((x3 + 3), σ_31))) else ((some (some (.int (0 : Int32)), σ_31)).map Sum.inr)) else if (x_4 &&& (15 : Int32)) = 5 then ((rb_fc σ r1 1).bind fun _ => rb_cI (f_RB_erase (r1)  σ) fun x_33 σ_34 => (rb_fc σ_34 r2 13).bind fun _ => rb_cI (f_M_erase (r2)  σ_34) fun x_35 σ_36 => if x_33 = x_35 then (some (.inl ((x3 + 3), σ_36))) else ((some (some (.int (0 : Int32)), σ_36)).map Sum.inr)) else if (x_4 &&& (15 : Int32)) = 6 then ((rb_aI σ r0 102 (x3 + (1 : Int32))).bind fun x_38 => (rb_fc σ r1 1).bind fun _ => rb_cI (f_RB_build (r1) (x_38) σ) fun x_39 σ_40 => (rb_aI σ_40 r0 102 (x3 + (1 : Int32))).bind fun x_41 => (rb_fc σ_40 r2 13).bind fun _ => rb_cI (f_M_build (r2) (x_41) σ_40) fun x_42 σ_43 => if x_39 = x_42 then (some (.inl ((x3 + 3), σ_43))) else ((some (some (.int (0 : Int32)), σ_43)).map Sum.inr)) else if (x_4 &&& (15 : Int32)) = 7 then ((rb_fc σ r1 1).bind fun _ => rb_cI (f_RB_names (r1)  σ) fun x_45 σ_46 => (rb_fc σ_46 r2 13).bind fun _ => rb_cI (f_M_names (r2)  σ_46) fun x_47 σ_48 => if x_45 = x_47 then (some (.inl ((x3 + 3), σ_48))) else ((some (some (.int (0 : Int32)), σ_48)).map Sum.inr)) else if (x_4 &&& (15 : Int32)) = 8 then ((rb_aI σ r0 102 (x3 + (1 : Int32))).bind fun x_50 => (rb_aI σ r0 102 (x3 + (2 : Int32))).bind fun x_51 => (rb_fc σ r1 1).bind fun _ => rb_cI (f_RB_nameAt (r1) (x_50) (x_51) σ) fun x_52 σ_53 => (rb_aI σ_53 r0 102 (x3 + (1 : Int32))).bind fun x_54 => (rb_aI σ_53 r0 102 (x3 + (2 : Int32))).bind fun x_55 => (rb_fc σ_53 r2 13).bind fun _ => rb_cI (f_M_nameAt (r2) (x_54) (x_55) σ_53) fun x_56 σ_57 => if x_52 = x_56 then (some (.inl ((x3 + 3), σ_57))) else ((some (some (.int (0 : Int32)), σ_57)).map Sum.inr)) else if (x_4 &&& (15 : Int32)) = 9 then ((rb_aI σ r0 102 (x3 + (1 : Int32))).bind fun x_59 => (rb_fc σ r1 1).bind fun _ => rb_cI (f_RB_time (r1) (x_59) σ) fun x_60 σ_61 => (rb_aI σ_61 r0 102 (x3 + (1 : Int32))).bind fun x_62 => (rb_fc σ_61 r2 13).bind fun _ => rb_cI (f_M_time (r2) (x_62) σ_61) fun x_63 σ_64 => if x_60 = x_63 then (some (.inl ((x3 + 3), σ_64))) else ((some (some (.int (0 : Int32)), σ_64)).map Sum.inr)) else if (x_4 &&& (15 : Int32)) = 10 then ((rb_aI σ r0 102 (x3 + (1 : Int32))).bind fun x_66 => (rb_fc σ r1 1).bind fun _ => rb_cI (f_RB_content (r1) (x_66) σ) fun x_67 σ_68 => (rb_aI σ_68 r0 102 (x3 + (1 : Int32))).bind fun x_69 => (rb_fc σ_68 r2 13).bind fun _ => rb_cI (f_M_content (r2) (x_69) σ_68) fun x_70 σ_71 => if x_67 = x_70 then (some (.inl ((x3 + 3), σ_71))) else ((some (some (.int (0 : Int32)), σ_71)).map Sum.inr)) else if (x_4 &&& (15 : Int32)) = 11 then ((rb_aI σ r0 102 (x3 + (1 : Int32))).bind fun x_73 => (rb_fc σ r1 1).bind fun _ => rb_cI (f_RB_fate (r1) (x_73) σ) fun x_74 σ_75 => (rb_aI σ_75 r0 102 (x3 + (1 : Int32))).bind fun x_76 => (rb_fc σ_75 r2 13).bind fun _ => rb_cI (f_M_fate (r2) (x_76) σ_75) fun x_77 σ_78 => if x_74 = x_77 then (some (.inl ((x3 + 3), σ_78))) else ((some (some (.int (0 : Int32)), σ_78)).map Sum.inr)) else if (x_4 &&& (15 : Int32)) = 12 then ((rb_fc σ r1 1).bind fun _ => rb_cI (f_RB_done (r1)  σ) fun x_80 σ_81 => (rb_fc σ_81 r2 13).bind fun _ => rb_cI (f_M_done (r2)  σ_81) fun x_82 σ_83 => if x_80 = x_82 then (some (.inl ((x3 + 3), σ_83))) else ((some (some (.int (0 : Int32)), σ_83)).map Sum.inr)) else if (x_4 &&& (15 : Int32)) = 13 then ((rb_fc σ r1 1).bind fun _ => rb_cI (f_RB_printed (r1)  σ) fun x_85 σ_86 => (rb_fc σ_86 r2 13).bind fun _ => rb_cI (f_M_printed (r2)  σ_86) fun x_87 σ_88 => if x_85 = x_87 then (some (.inl ((x3 + 3), σ_88))) else ((some (some (.int (0 : Int32)), σ_88)).map Sum.inr)) else if (x_4 &&& (15 : Int32)) = 14 then ((rb_aI σ r0 102 (x3 + (1 : Int32))).bind fun x_90 => (rb_fc σ r1 1).bind fun _ => rb_cI (f_RB_printedAt (r1) (x_90) σ) fun x_91 σ_92 => (rb_aI σ_92 r0 102 (x3 + (1 : Int32))).bind fun x_93 => (rb_fc σ_92 r2 13).bind fun _ => rb_cI (f_M_printedAt (r2) (x_93) σ_92) fun x_94 σ_95 => if x_91 = x_94 then (some (.inl ((x3 + 3), σ_95))) else ((some (some (.int (0 : Int32)), σ_95)).map Sum.inr)) else (some (.inl ((x3 + 3), σ))))
theorem t_Law_law_b18 {E : rb_EV} {d : Nat} {σ0 : rb_St} {res : rb_Rs} (hdd : 166 ≤ d)  (r0 : Option Nat) (r1 : Option Nat) (r2 : Option Nat) (x3 : Int32) (σ : rb_St) : rb_TC (f_Law_law_b18 r0 r1 r2 x3 σ) (Sum.elim (fun z : (Int32 × rb_St) => rb_WK E k_Law_law d σ0 res 18 [some (va_rf r0), some (va_rf r1), some (va_rf r2), some (.int z.1)] [] z.2) (fun r => r = res)) (rb_WK E k_Law_law d σ0 res 18 [some (va_rf r0), some (va_rf r1), some (va_rf r2), some (.int x3)] [] σ) := by
  unfold f_Law_law_b18
  refine rb_TC.mono (rk_iload_n 3 d_Law_law_18 rfl rfl) ?_
  refine rb_TC.mono (rk_aload_n 0 d_Law_law_19 rfl rfl) ?_
  refine rt_len (t := 102) r0 (by decide) d_Law_law_20 (fun x_3 => ?_)
  refine rb_TC.mono (rk_iconst (3 : Int32) d_Law_law_21 (by decide)) ?_
  refine rb_TC.mono (rk_isub d_Law_law_22) ?_
  refine rt_icmp_gt 399 d_Law_law_23 (by decide) (fun _ => ?_) (fun _ => ?_)
  · refine rb_TC.out ?_
    refine rb_TC.mono (rk_iconst (1 : Int32) d_Law_law_399 (by decide)) ?_
    exact rt_iret (ty := .boolean) rfl (by decide) (fun h => h) d_Law_law_400
  · refine rb_TC.mono (rk_aload_n 0 d_Law_law_26 rfl rfl) ?_
    refine rb_TC.mono (rk_iload_n 3 d_Law_law_27 rfl rfl) ?_
    refine rt_iald r0 d_Law_law_28 (fun x_4 => ?_)
    refine rb_TC.mono (rk_bipush (15 : Int32) d_Law_law_29 (by decide)) ?_
    refine rb_TC.mono (rk_iand d_Law_law_31) ?_
    refine rb_TC.ite (fun h_5 => ?_) (fun h_5 => ?_)
    · refine rb_TC.mono (rk_tabIn 108 d_Law_law_32 (by rw [h_5]; decide) (by rw [h_5]; decide) (by rw [h_5]; rfl) (by decide)) ?_
      refine rb_TC.mono (rk_aload_n 1 d_Law_law_108 rfl rfl) ?_
      refine rb_TC.mono (rk_aload_n 0 d_Law_law_109 rfl rfl) ?_
      refine rb_TC.mono (rk_iload_n 3 d_Law_law_110 rfl rfl) ?_
      refine rb_TC.mono (rk_iconst (1 : Int32) d_Law_law_111 (by decide)) ?_
      refine rb_TC.mono (rk_iadd d_Law_law_112) ?_
      refine rt_iald r0 d_Law_law_113 (fun x_6 => ?_)
      refine rb_TC.mono (rk_i2c d_Law_law_114) ?_
      refine rt_vI (As := [.int ((x_6.toUInt32 % 65536).toInt32)]) (st := []) (r1) vw_Law_13 (s_RB_type (Nat.le_refl _) (r1) (((x_6.toUInt32 % 65536).toInt32)) σ) (Nat.le_trans (by decide) hdd) rfl (by simp [rb_cat_r, rb_cat_i, rb_cat_l]) d_Law_law_115 (fun x_7 σ_8 => ?_)
      refine rb_TC.mono (rk_aload_n 2 d_Law_law_118 rfl rfl) ?_
      refine rb_TC.mono (rk_aload_n 0 d_Law_law_119 rfl rfl) ?_
      refine rb_TC.mono (rk_iload_n 3 d_Law_law_120 rfl rfl) ?_
      refine rb_TC.mono (rk_iconst (1 : Int32) d_Law_law_121 (by decide)) ?_
      refine rb_TC.mono (rk_iadd d_Law_law_122) ?_
      refine rt_iald r0 d_Law_law_123 (fun x_9 => ?_)
      refine rb_TC.mono (rk_i2c d_Law_law_124) ?_
      refine rt_vI (As := [.int ((x_9.toUInt32 % 65536).toInt32)]) (st := [.int x_7]) (r2) vw_Law_17 (s_M_type (Nat.le_refl _) (r2) (((x_9.toUInt32 % 65536).toInt32)) σ_8) (Nat.le_trans (by decide) hdd) rfl (by simp [rb_cat_r, rb_cat_i, rb_cat_l]) d_Law_law_125 (fun x_10 σ_11 => ?_)
      refine rt_icmp_eq 393 d_Law_law_128 (by decide) (fun _ => ?_) (fun _ => ?_)
      · refine rb_TC.mono (rk_iinc (lv2 := [some (va_rf r0), some (va_rf r1), some (va_rf r2), some (.int (x3 + 3))]) (x3 + 3) d_Law_law_393 rfl rfl (by decide) (fun _ => rb_one_r) rfl) ?_
        refine rb_TC.mono (rk_goto 18 d_Law_law_396 (by decide)) ?_
        exact rb_back
      · refine rb_TC.out ?_
        refine rb_TC.mono (rk_iconst (0 : Int32) d_Law_law_131 (by decide)) ?_
        exact rt_iret (ty := .boolean) rfl (by decide) (fun h => h) d_Law_law_132
    refine rb_TC.ite (fun h_12 => ?_) (fun h_12 => ?_)
    · refine rb_TC.mono (rk_tabIn 133 d_Law_law_32 (by rw [h_12]; decide) (by rw [h_12]; decide) (by rw [h_12]; rfl) (by decide)) ?_
      refine rb_TC.mono (rk_aload_n 1 d_Law_law_133 rfl rfl) ?_
      refine rt_vV (As := []) (st := []) (r1) vw_Law_18 (s_RB_scrap (Nat.le_refl _) (r1)  σ) (Nat.le_trans (by decide) hdd) rfl (by simp [rb_cat_r, rb_cat_i, rb_cat_l]) d_Law_law_134 (fun σ_13 => ?_)
      refine rb_TC.mono (rk_aload_n 2 d_Law_law_137 rfl rfl) ?_
      refine rt_vV (As := []) (st := []) (r2) vw_Law_21 (s_M_scrap (Nat.le_refl _) (r2)  σ_13) (Nat.le_trans (by decide) hdd) rfl (by simp [rb_cat_r, rb_cat_i, rb_cat_l]) d_Law_law_138 (fun σ_14 => ?_)
      refine rb_TC.mono (rk_goto 393 d_Law_law_141 (by decide)) ?_
      refine rb_TC.mono (rk_iinc (lv2 := [some (va_rf r0), some (va_rf r1), some (va_rf r2), some (.int (x3 + 3))]) (x3 + 3) d_Law_law_393 rfl rfl (by decide) (fun _ => rb_one_r) rfl) ?_
      refine rb_TC.mono (rk_goto 18 d_Law_law_396 (by decide)) ?_
      exact rb_back
    refine rb_TC.ite (fun h_15 => ?_) (fun h_15 => ?_)
    · refine rb_TC.mono (rk_tabIn 144 d_Law_law_32 (by rw [h_15]; decide) (by rw [h_15]; decide) (by rw [h_15]; rfl) (by decide)) ?_
      refine rb_TC.mono (rk_aload_n 1 d_Law_law_144 rfl rfl) ?_
      refine rt_vI (As := []) (st := []) (r1) vw_Law_22 (s_RB_set (Nat.le_refl _) (r1)  σ) (Nat.le_trans (by decide) hdd) rfl (by simp [rb_cat_r, rb_cat_i, rb_cat_l]) d_Law_law_145 (fun x_16 σ_17 => ?_)
      refine rb_TC.mono (rk_aload_n 2 d_Law_law_148 rfl rfl) ?_
      refine rt_vI (As := []) (st := [.int x_16]) (r2) vw_Law_26 (s_M_set (Nat.le_refl _) (r2)  σ_17) (Nat.le_trans (by decide) hdd) rfl (by simp [rb_cat_r, rb_cat_i, rb_cat_l]) d_Law_law_149 (fun x_18 σ_19 => ?_)
      refine rt_icmp_eq 393 d_Law_law_152 (by decide) (fun _ => ?_) (fun _ => ?_)
      · refine rb_TC.mono (rk_iinc (lv2 := [some (va_rf r0), some (va_rf r1), some (va_rf r2), some (.int (x3 + 3))]) (x3 + 3) d_Law_law_393 rfl rfl (by decide) (fun _ => rb_one_r) rfl) ?_
        refine rb_TC.mono (rk_goto 18 d_Law_law_396 (by decide)) ?_
        exact rb_back
      · refine rb_TC.out ?_
        refine rb_TC.mono (rk_iconst (0 : Int32) d_Law_law_155 (by decide)) ?_
        exact rt_iret (ty := .boolean) rfl (by decide) (fun h => h) d_Law_law_156
    refine rb_TC.ite (fun h_20 => ?_) (fun h_20 => ?_)
    · refine rb_TC.mono (rk_tabIn 157 d_Law_law_32 (by rw [h_20]; decide) (by rw [h_20]; decide) (by rw [h_20]; rfl) (by decide)) ?_
      refine rb_TC.mono (rk_aload_n 1 d_Law_law_157 rfl rfl) ?_
      refine rt_vI (As := []) (st := []) (r1) vw_Law_27 (s_RB_load (Nat.le_refl _) (r1)  σ) (Nat.le_trans (by decide) hdd) rfl (by simp [rb_cat_r, rb_cat_i, rb_cat_l]) d_Law_law_158 (fun x_21 σ_22 => ?_)
      refine rb_TC.mono (rk_aload_n 2 d_Law_law_161 rfl rfl) ?_
      refine rt_vI (As := []) (st := [.int x_21]) (r2) vw_Law_31 (s_M_load (Nat.le_refl _) (r2)  σ_22) (Nat.le_trans (by decide) hdd) rfl (by simp [rb_cat_r, rb_cat_i, rb_cat_l]) d_Law_law_162 (fun x_23 σ_24 => ?_)
      refine rt_icmp_eq 393 d_Law_law_165 (by decide) (fun _ => ?_) (fun _ => ?_)
      · refine rb_TC.mono (rk_iinc (lv2 := [some (va_rf r0), some (va_rf r1), some (va_rf r2), some (.int (x3 + 3))]) (x3 + 3) d_Law_law_393 rfl rfl (by decide) (fun _ => rb_one_r) rfl) ?_
        refine rb_TC.mono (rk_goto 18 d_Law_law_396 (by decide)) ?_
        exact rb_back
      · refine rb_TC.out ?_
        refine rb_TC.mono (rk_iconst (0 : Int32) d_Law_law_168 (by decide)) ?_
        exact rt_iret (ty := .boolean) rfl (by decide) (fun h => h) d_Law_law_169
    refine rb_TC.ite (fun h_25 => ?_) (fun h_25 => ?_)
    · refine rb_TC.mono (rk_tabIn 170 d_Law_law_32 (by rw [h_25]; decide) (by rw [h_25]; decide) (by rw [h_25]; rfl) (by decide)) ?_
      refine rb_TC.mono (rk_aload_n 1 d_Law_law_170 rfl rfl) ?_
      refine rb_TC.mono (rk_aload_n 0 d_Law_law_171 rfl rfl) ?_
      refine rb_TC.mono (rk_iload_n 3 d_Law_law_172 rfl rfl) ?_
      refine rb_TC.mono (rk_iconst (1 : Int32) d_Law_law_173 (by decide)) ?_
      refine rb_TC.mono (rk_iadd d_Law_law_174) ?_
      refine rt_iald r0 d_Law_law_175 (fun x_26 => ?_)
      refine rt_vI (As := [.int x_26]) (st := []) (r1) vw_Law_32 (s_RB_edit (Nat.le_refl _) (r1) (x_26) σ) (Nat.le_trans (by decide) hdd) rfl (by simp [rb_cat_r, rb_cat_i, rb_cat_l]) d_Law_law_176 (fun x_27 σ_28 => ?_)
      refine rb_TC.mono (rk_aload_n 2 d_Law_law_179 rfl rfl) ?_
      refine rb_TC.mono (rk_aload_n 0 d_Law_law_180 rfl rfl) ?_
      refine rb_TC.mono (rk_iload_n 3 d_Law_law_181 rfl rfl) ?_
      refine rb_TC.mono (rk_iconst (1 : Int32) d_Law_law_182 (by decide)) ?_
      refine rb_TC.mono (rk_iadd d_Law_law_183) ?_
      refine rt_iald r0 d_Law_law_184 (fun x_29 => ?_)
      refine rt_vI (As := [.int x_29]) (st := [.int x_27]) (r2) vw_Law_36 (s_M_edit (Nat.le_refl _) (r2) (x_29) σ_28) (Nat.le_trans (by decide) hdd) rfl (by simp [rb_cat_r, rb_cat_i, rb_cat_l]) d_Law_law_185 (fun x_30 σ_31 => ?_)
      refine rt_icmp_eq 393 d_Law_law_188 (by decide) (fun _ => ?_) (fun _ => ?_)
      · refine rb_TC.mono (rk_iinc (lv2 := [some (va_rf r0), some (va_rf r1), some (va_rf r2), some (.int (x3 + 3))]) (x3 + 3) d_Law_law_393 rfl rfl (by decide) (fun _ => rb_one_r) rfl) ?_
        refine rb_TC.mono (rk_goto 18 d_Law_law_396 (by decide)) ?_
        exact rb_back
      · refine rb_TC.out ?_
        refine rb_TC.mono (rk_iconst (0 : Int32) d_Law_law_191 (by decide)) ?_
        exact rt_iret (ty := .boolean) rfl (by decide) (fun h => h) d_Law_law_192
    refine rb_TC.ite (fun h_32 => ?_) (fun h_32 => ?_)
    · refine rb_TC.mono (rk_tabIn 193 d_Law_law_32 (by rw [h_32]; decide) (by rw [h_32]; decide) (by rw [h_32]; rfl) (by decide)) ?_
      refine rb_TC.mono (rk_aload_n 1 d_Law_law_193 rfl rfl) ?_
      refine rt_vI (As := []) (st := []) (r1) vw_Law_37 (s_RB_erase (Nat.le_refl _) (r1)  σ) (Nat.le_trans (by decide) hdd) rfl (by simp [rb_cat_r, rb_cat_i, rb_cat_l]) d_Law_law_194 (fun x_33 σ_34 => ?_)
      refine rb_TC.mono (rk_aload_n 2 d_Law_law_197 rfl rfl) ?_
      refine rt_vI (As := []) (st := [.int x_33]) (r2) vw_Law_40 (s_M_erase (Nat.le_refl _) (r2)  σ_34) (Nat.le_trans (by decide) hdd) rfl (by simp [rb_cat_r, rb_cat_i, rb_cat_l]) d_Law_law_198 (fun x_35 σ_36 => ?_)
      refine rt_icmp_eq 393 d_Law_law_201 (by decide) (fun _ => ?_) (fun _ => ?_)
      · refine rb_TC.mono (rk_iinc (lv2 := [some (va_rf r0), some (va_rf r1), some (va_rf r2), some (.int (x3 + 3))]) (x3 + 3) d_Law_law_393 rfl rfl (by decide) (fun _ => rb_one_r) rfl) ?_
        refine rb_TC.mono (rk_goto 18 d_Law_law_396 (by decide)) ?_
        exact rb_back
      · refine rb_TC.out ?_
        refine rb_TC.mono (rk_iconst (0 : Int32) d_Law_law_204 (by decide)) ?_
        exact rt_iret (ty := .boolean) rfl (by decide) (fun h => h) d_Law_law_205
    refine rb_TC.ite (fun h_37 => ?_) (fun h_37 => ?_)
    · refine rb_TC.mono (rk_tabIn 206 d_Law_law_32 (by rw [h_37]; decide) (by rw [h_37]; decide) (by rw [h_37]; rfl) (by decide)) ?_
      refine rb_TC.mono (rk_aload_n 1 d_Law_law_206 rfl rfl) ?_
      refine rb_TC.mono (rk_aload_n 0 d_Law_law_207 rfl rfl) ?_
      refine rb_TC.mono (rk_iload_n 3 d_Law_law_208 rfl rfl) ?_
      refine rb_TC.mono (rk_iconst (1 : Int32) d_Law_law_209 (by decide)) ?_
      refine rb_TC.mono (rk_iadd d_Law_law_210) ?_
      refine rt_iald r0 d_Law_law_211 (fun x_38 => ?_)
      refine rt_vI (As := [.int x_38]) (st := []) (r1) vw_Law_41 (s_RB_build (Nat.le_refl _) (r1) (x_38) σ) (Nat.le_trans (by decide) hdd) rfl (by simp [rb_cat_r, rb_cat_i, rb_cat_l]) d_Law_law_212 (fun x_39 σ_40 => ?_)
      refine rb_TC.mono (rk_aload_n 2 d_Law_law_215 rfl rfl) ?_
      refine rb_TC.mono (rk_aload_n 0 d_Law_law_216 rfl rfl) ?_
      refine rb_TC.mono (rk_iload_n 3 d_Law_law_217 rfl rfl) ?_
      refine rb_TC.mono (rk_iconst (1 : Int32) d_Law_law_218 (by decide)) ?_
      refine rb_TC.mono (rk_iadd d_Law_law_219) ?_
      refine rt_iald r0 d_Law_law_220 (fun x_41 => ?_)
      refine rt_vI (As := [.int x_41]) (st := [.int x_39]) (r2) vw_Law_44 (s_M_build (Nat.le_refl _) (r2) (x_41) σ_40) (Nat.le_trans (by decide) hdd) rfl (by simp [rb_cat_r, rb_cat_i, rb_cat_l]) d_Law_law_221 (fun x_42 σ_43 => ?_)
      refine rt_icmp_eq 393 d_Law_law_224 (by decide) (fun _ => ?_) (fun _ => ?_)
      · refine rb_TC.mono (rk_iinc (lv2 := [some (va_rf r0), some (va_rf r1), some (va_rf r2), some (.int (x3 + 3))]) (x3 + 3) d_Law_law_393 rfl rfl (by decide) (fun _ => rb_one_r) rfl) ?_
        refine rb_TC.mono (rk_goto 18 d_Law_law_396 (by decide)) ?_
        exact rb_back
      · refine rb_TC.out ?_
        refine rb_TC.mono (rk_iconst (0 : Int32) d_Law_law_227 (by decide)) ?_
        exact rt_iret (ty := .boolean) rfl (by decide) (fun h => h) d_Law_law_228
    refine rb_TC.ite (fun h_44 => ?_) (fun h_44 => ?_)
    · refine rb_TC.mono (rk_tabIn 229 d_Law_law_32 (by rw [h_44]; decide) (by rw [h_44]; decide) (by rw [h_44]; rfl) (by decide)) ?_
      refine rb_TC.mono (rk_aload_n 1 d_Law_law_229 rfl rfl) ?_
      refine rt_vI (As := []) (st := []) (r1) vw_Law_45 (s_RB_names (Nat.le_refl _) (r1)  σ) (Nat.le_trans (by decide) hdd) rfl (by simp [rb_cat_r, rb_cat_i, rb_cat_l]) d_Law_law_230 (fun x_45 σ_46 => ?_)
      refine rb_TC.mono (rk_aload_n 2 d_Law_law_233 rfl rfl) ?_
      refine rt_vI (As := []) (st := [.int x_45]) (r2) vw_Law_48 (s_M_names (Nat.le_refl _) (r2)  σ_46) (Nat.le_trans (by decide) hdd) rfl (by simp [rb_cat_r, rb_cat_i, rb_cat_l]) d_Law_law_234 (fun x_47 σ_48 => ?_)
      refine rt_icmp_eq 393 d_Law_law_237 (by decide) (fun _ => ?_) (fun _ => ?_)
      · refine rb_TC.mono (rk_iinc (lv2 := [some (va_rf r0), some (va_rf r1), some (va_rf r2), some (.int (x3 + 3))]) (x3 + 3) d_Law_law_393 rfl rfl (by decide) (fun _ => rb_one_r) rfl) ?_
        refine rb_TC.mono (rk_goto 18 d_Law_law_396 (by decide)) ?_
        exact rb_back
      · refine rb_TC.out ?_
        refine rb_TC.mono (rk_iconst (0 : Int32) d_Law_law_240 (by decide)) ?_
        exact rt_iret (ty := .boolean) rfl (by decide) (fun h => h) d_Law_law_241
    refine rb_TC.ite (fun h_49 => ?_) (fun h_49 => ?_)
    · refine rb_TC.mono (rk_tabIn 242 d_Law_law_32 (by rw [h_49]; decide) (by rw [h_49]; decide) (by rw [h_49]; rfl) (by decide)) ?_
      refine rb_TC.mono (rk_aload_n 1 d_Law_law_242 rfl rfl) ?_
      refine rb_TC.mono (rk_aload_n 0 d_Law_law_243 rfl rfl) ?_
      refine rb_TC.mono (rk_iload_n 3 d_Law_law_244 rfl rfl) ?_
      refine rb_TC.mono (rk_iconst (1 : Int32) d_Law_law_245 (by decide)) ?_
      refine rb_TC.mono (rk_iadd d_Law_law_246) ?_
      refine rt_iald r0 d_Law_law_247 (fun x_50 => ?_)
      refine rb_TC.mono (rk_aload_n 0 d_Law_law_248 rfl rfl) ?_
      refine rb_TC.mono (rk_iload_n 3 d_Law_law_249 rfl rfl) ?_
      refine rb_TC.mono (rk_iconst (2 : Int32) d_Law_law_250 (by decide)) ?_
      refine rb_TC.mono (rk_iadd d_Law_law_251) ?_
      refine rt_iald r0 d_Law_law_252 (fun x_51 => ?_)
      refine rt_vI (As := [.int x_50, .int x_51]) (st := []) (r1) vw_Law_49 (s_RB_nameAt (Nat.le_refl _) (r1) (x_50) (x_51) σ) (Nat.le_trans (by decide) hdd) rfl (by simp [rb_cat_r, rb_cat_i, rb_cat_l]) d_Law_law_253 (fun x_52 σ_53 => ?_)
      refine rb_TC.mono (rk_aload_n 2 d_Law_law_256 rfl rfl) ?_
      refine rb_TC.mono (rk_aload_n 0 d_Law_law_257 rfl rfl) ?_
      refine rb_TC.mono (rk_iload_n 3 d_Law_law_258 rfl rfl) ?_
      refine rb_TC.mono (rk_iconst (1 : Int32) d_Law_law_259 (by decide)) ?_
      refine rb_TC.mono (rk_iadd d_Law_law_260) ?_
      refine rt_iald r0 d_Law_law_261 (fun x_54 => ?_)
      refine rb_TC.mono (rk_aload_n 0 d_Law_law_262 rfl rfl) ?_
      refine rb_TC.mono (rk_iload_n 3 d_Law_law_263 rfl rfl) ?_
      refine rb_TC.mono (rk_iconst (2 : Int32) d_Law_law_264 (by decide)) ?_
      refine rb_TC.mono (rk_iadd d_Law_law_265) ?_
      refine rt_iald r0 d_Law_law_266 (fun x_55 => ?_)
      refine rt_vI (As := [.int x_54, .int x_55]) (st := [.int x_52]) (r2) vw_Law_53 (s_M_nameAt (Nat.le_refl _) (r2) (x_54) (x_55) σ_53) (Nat.le_trans (by decide) hdd) rfl (by simp [rb_cat_r, rb_cat_i, rb_cat_l]) d_Law_law_267 (fun x_56 σ_57 => ?_)
      refine rt_icmp_eq 393 d_Law_law_270 (by decide) (fun _ => ?_) (fun _ => ?_)
      · refine rb_TC.mono (rk_iinc (lv2 := [some (va_rf r0), some (va_rf r1), some (va_rf r2), some (.int (x3 + 3))]) (x3 + 3) d_Law_law_393 rfl rfl (by decide) (fun _ => rb_one_r) rfl) ?_
        refine rb_TC.mono (rk_goto 18 d_Law_law_396 (by decide)) ?_
        exact rb_back
      · refine rb_TC.out ?_
        refine rb_TC.mono (rk_iconst (0 : Int32) d_Law_law_273 (by decide)) ?_
        exact rt_iret (ty := .boolean) rfl (by decide) (fun h => h) d_Law_law_274
    refine rb_TC.ite (fun h_58 => ?_) (fun h_58 => ?_)
    · refine rb_TC.mono (rk_tabIn 275 d_Law_law_32 (by rw [h_58]; decide) (by rw [h_58]; decide) (by rw [h_58]; rfl) (by decide)) ?_
      refine rb_TC.mono (rk_aload_n 1 d_Law_law_275 rfl rfl) ?_
      refine rb_TC.mono (rk_aload_n 0 d_Law_law_276 rfl rfl) ?_
      refine rb_TC.mono (rk_iload_n 3 d_Law_law_277 rfl rfl) ?_
      refine rb_TC.mono (rk_iconst (1 : Int32) d_Law_law_278 (by decide)) ?_
      refine rb_TC.mono (rk_iadd d_Law_law_279) ?_
      refine rt_iald r0 d_Law_law_280 (fun x_59 => ?_)
      refine rt_vI (As := [.int x_59]) (st := []) (r1) vw_Law_54 (s_RB_time (Nat.le_refl _) (r1) (x_59) σ) (Nat.le_trans (by decide) hdd) rfl (by simp [rb_cat_r, rb_cat_i, rb_cat_l]) d_Law_law_281 (fun x_60 σ_61 => ?_)
      refine rb_TC.mono (rk_aload_n 2 d_Law_law_284 rfl rfl) ?_
      refine rb_TC.mono (rk_aload_n 0 d_Law_law_285 rfl rfl) ?_
      refine rb_TC.mono (rk_iload_n 3 d_Law_law_286 rfl rfl) ?_
      refine rb_TC.mono (rk_iconst (1 : Int32) d_Law_law_287 (by decide)) ?_
      refine rb_TC.mono (rk_iadd d_Law_law_288) ?_
      refine rt_iald r0 d_Law_law_289 (fun x_62 => ?_)
      refine rt_vI (As := [.int x_62]) (st := [.int x_60]) (r2) vw_Law_57 (s_M_time (Nat.le_refl _) (r2) (x_62) σ_61) (Nat.le_trans (by decide) hdd) rfl (by simp [rb_cat_r, rb_cat_i, rb_cat_l]) d_Law_law_290 (fun x_63 σ_64 => ?_)
      refine rt_icmp_eq 393 d_Law_law_293 (by decide) (fun _ => ?_) (fun _ => ?_)
      · refine rb_TC.mono (rk_iinc (lv2 := [some (va_rf r0), some (va_rf r1), some (va_rf r2), some (.int (x3 + 3))]) (x3 + 3) d_Law_law_393 rfl rfl (by decide) (fun _ => rb_one_r) rfl) ?_
        refine rb_TC.mono (rk_goto 18 d_Law_law_396 (by decide)) ?_
        exact rb_back
      · refine rb_TC.out ?_
        refine rb_TC.mono (rk_iconst (0 : Int32) d_Law_law_296 (by decide)) ?_
        exact rt_iret (ty := .boolean) rfl (by decide) (fun h => h) d_Law_law_297
    refine rb_TC.ite (fun h_65 => ?_) (fun h_65 => ?_)
    · refine rb_TC.mono (rk_tabIn 298 d_Law_law_32 (by rw [h_65]; decide) (by rw [h_65]; decide) (by rw [h_65]; rfl) (by decide)) ?_
      refine rb_TC.mono (rk_aload_n 1 d_Law_law_298 rfl rfl) ?_
      refine rb_TC.mono (rk_aload_n 0 d_Law_law_299 rfl rfl) ?_
      refine rb_TC.mono (rk_iload_n 3 d_Law_law_300 rfl rfl) ?_
      refine rb_TC.mono (rk_iconst (1 : Int32) d_Law_law_301 (by decide)) ?_
      refine rb_TC.mono (rk_iadd d_Law_law_302) ?_
      refine rt_iald r0 d_Law_law_303 (fun x_66 => ?_)
      refine rt_vI (As := [.int x_66]) (st := []) (r1) vw_Law_58 (s_RB_content (Nat.le_refl _) (r1) (x_66) σ) (Nat.le_trans (by decide) hdd) rfl (by simp [rb_cat_r, rb_cat_i, rb_cat_l]) d_Law_law_304 (fun x_67 σ_68 => ?_)
      refine rb_TC.mono (rk_aload_n 2 d_Law_law_307 rfl rfl) ?_
      refine rb_TC.mono (rk_aload_n 0 d_Law_law_308 rfl rfl) ?_
      refine rb_TC.mono (rk_iload_n 3 d_Law_law_309 rfl rfl) ?_
      refine rb_TC.mono (rk_iconst (1 : Int32) d_Law_law_310 (by decide)) ?_
      refine rb_TC.mono (rk_iadd d_Law_law_311) ?_
      refine rt_iald r0 d_Law_law_312 (fun x_69 => ?_)
      refine rt_vI (As := [.int x_69]) (st := [.int x_67]) (r2) vw_Law_61 (s_M_content (Nat.le_refl _) (r2) (x_69) σ_68) (Nat.le_trans (by decide) hdd) rfl (by simp [rb_cat_r, rb_cat_i, rb_cat_l]) d_Law_law_313 (fun x_70 σ_71 => ?_)
      refine rt_icmp_eq 393 d_Law_law_316 (by decide) (fun _ => ?_) (fun _ => ?_)
      · refine rb_TC.mono (rk_iinc (lv2 := [some (va_rf r0), some (va_rf r1), some (va_rf r2), some (.int (x3 + 3))]) (x3 + 3) d_Law_law_393 rfl rfl (by decide) (fun _ => rb_one_r) rfl) ?_
        refine rb_TC.mono (rk_goto 18 d_Law_law_396 (by decide)) ?_
        exact rb_back
      · refine rb_TC.out ?_
        refine rb_TC.mono (rk_iconst (0 : Int32) d_Law_law_319 (by decide)) ?_
        exact rt_iret (ty := .boolean) rfl (by decide) (fun h => h) d_Law_law_320
    refine rb_TC.ite (fun h_72 => ?_) (fun h_72 => ?_)
    · refine rb_TC.mono (rk_tabIn 321 d_Law_law_32 (by rw [h_72]; decide) (by rw [h_72]; decide) (by rw [h_72]; rfl) (by decide)) ?_
      refine rb_TC.mono (rk_aload_n 1 d_Law_law_321 rfl rfl) ?_
      refine rb_TC.mono (rk_aload_n 0 d_Law_law_322 rfl rfl) ?_
      refine rb_TC.mono (rk_iload_n 3 d_Law_law_323 rfl rfl) ?_
      refine rb_TC.mono (rk_iconst (1 : Int32) d_Law_law_324 (by decide)) ?_
      refine rb_TC.mono (rk_iadd d_Law_law_325) ?_
      refine rt_iald r0 d_Law_law_326 (fun x_73 => ?_)
      refine rt_vI (As := [.int x_73]) (st := []) (r1) vw_Law_62 (s_RB_fate (Nat.le_refl _) (r1) (x_73) σ) (Nat.le_trans (by decide) hdd) rfl (by simp [rb_cat_r, rb_cat_i, rb_cat_l]) d_Law_law_327 (fun x_74 σ_75 => ?_)
      refine rb_TC.mono (rk_aload_n 2 d_Law_law_330 rfl rfl) ?_
      refine rb_TC.mono (rk_aload_n 0 d_Law_law_331 rfl rfl) ?_
      refine rb_TC.mono (rk_iload_n 3 d_Law_law_332 rfl rfl) ?_
      refine rb_TC.mono (rk_iconst (1 : Int32) d_Law_law_333 (by decide)) ?_
      refine rb_TC.mono (rk_iadd d_Law_law_334) ?_
      refine rt_iald r0 d_Law_law_335 (fun x_76 => ?_)
      refine rt_vI (As := [.int x_76]) (st := [.int x_74]) (r2) vw_Law_65 (s_M_fate (Nat.le_refl _) (r2) (x_76) σ_75) (Nat.le_trans (by decide) hdd) rfl (by simp [rb_cat_r, rb_cat_i, rb_cat_l]) d_Law_law_336 (fun x_77 σ_78 => ?_)
      refine rt_icmp_eq 393 d_Law_law_339 (by decide) (fun _ => ?_) (fun _ => ?_)
      · refine rb_TC.mono (rk_iinc (lv2 := [some (va_rf r0), some (va_rf r1), some (va_rf r2), some (.int (x3 + 3))]) (x3 + 3) d_Law_law_393 rfl rfl (by decide) (fun _ => rb_one_r) rfl) ?_
        refine rb_TC.mono (rk_goto 18 d_Law_law_396 (by decide)) ?_
        exact rb_back
      · refine rb_TC.out ?_
        refine rb_TC.mono (rk_iconst (0 : Int32) d_Law_law_342 (by decide)) ?_
        exact rt_iret (ty := .boolean) rfl (by decide) (fun h => h) d_Law_law_343
    refine rb_TC.ite (fun h_79 => ?_) (fun h_79 => ?_)
    · refine rb_TC.mono (rk_tabIn 344 d_Law_law_32 (by rw [h_79]; decide) (by rw [h_79]; decide) (by rw [h_79]; rfl) (by decide)) ?_
      refine rb_TC.mono (rk_aload_n 1 d_Law_law_344 rfl rfl) ?_
      refine rt_vI (As := []) (st := []) (r1) vw_Law_66 (s_RB_done (Nat.le_refl _) (r1)  σ) (Nat.le_trans (by decide) hdd) rfl (by simp [rb_cat_r, rb_cat_i, rb_cat_l]) d_Law_law_345 (fun x_80 σ_81 => ?_)
      refine rb_TC.mono (rk_aload_n 2 d_Law_law_348 rfl rfl) ?_
      refine rt_vI (As := []) (st := [.int x_80]) (r2) vw_Law_69 (s_M_done (Nat.le_refl _) (r2)  σ_81) (Nat.le_trans (by decide) hdd) rfl (by simp [rb_cat_r, rb_cat_i, rb_cat_l]) d_Law_law_349 (fun x_82 σ_83 => ?_)
      refine rt_icmp_eq 393 d_Law_law_352 (by decide) (fun _ => ?_) (fun _ => ?_)
      · refine rb_TC.mono (rk_iinc (lv2 := [some (va_rf r0), some (va_rf r1), some (va_rf r2), some (.int (x3 + 3))]) (x3 + 3) d_Law_law_393 rfl rfl (by decide) (fun _ => rb_one_r) rfl) ?_
        refine rb_TC.mono (rk_goto 18 d_Law_law_396 (by decide)) ?_
        exact rb_back
      · refine rb_TC.out ?_
        refine rb_TC.mono (rk_iconst (0 : Int32) d_Law_law_355 (by decide)) ?_
        exact rt_iret (ty := .boolean) rfl (by decide) (fun h => h) d_Law_law_356
    refine rb_TC.ite (fun h_84 => ?_) (fun h_84 => ?_)
    · refine rb_TC.mono (rk_tabIn 357 d_Law_law_32 (by rw [h_84]; decide) (by rw [h_84]; decide) (by rw [h_84]; rfl) (by decide)) ?_
      refine rb_TC.mono (rk_aload_n 1 d_Law_law_357 rfl rfl) ?_
      refine rt_vI (As := []) (st := []) (r1) vw_Law_70 (s_RB_printed (Nat.le_refl _) (r1)  σ) (Nat.le_trans (by decide) hdd) rfl (by simp [rb_cat_r, rb_cat_i, rb_cat_l]) d_Law_law_358 (fun x_85 σ_86 => ?_)
      refine rb_TC.mono (rk_aload_n 2 d_Law_law_361 rfl rfl) ?_
      refine rt_vI (As := []) (st := [.int x_85]) (r2) vw_Law_73 (s_M_printed (Nat.le_refl _) (r2)  σ_86) (Nat.le_trans (by decide) hdd) rfl (by simp [rb_cat_r, rb_cat_i, rb_cat_l]) d_Law_law_362 (fun x_87 σ_88 => ?_)
      refine rt_icmp_eq 393 d_Law_law_365 (by decide) (fun _ => ?_) (fun _ => ?_)
      · refine rb_TC.mono (rk_iinc (lv2 := [some (va_rf r0), some (va_rf r1), some (va_rf r2), some (.int (x3 + 3))]) (x3 + 3) d_Law_law_393 rfl rfl (by decide) (fun _ => rb_one_r) rfl) ?_
        refine rb_TC.mono (rk_goto 18 d_Law_law_396 (by decide)) ?_
        exact rb_back
      · refine rb_TC.out ?_
        refine rb_TC.mono (rk_iconst (0 : Int32) d_Law_law_368 (by decide)) ?_
        exact rt_iret (ty := .boolean) rfl (by decide) (fun h => h) d_Law_law_369
    refine rb_TC.ite (fun h_89 => ?_) (fun h_89 => ?_)
    · refine rb_TC.mono (rk_tabIn 370 d_Law_law_32 (by rw [h_89]; decide) (by rw [h_89]; decide) (by rw [h_89]; rfl) (by decide)) ?_
      refine rb_TC.mono (rk_aload_n 1 d_Law_law_370 rfl rfl) ?_
      refine rb_TC.mono (rk_aload_n 0 d_Law_law_371 rfl rfl) ?_
      refine rb_TC.mono (rk_iload_n 3 d_Law_law_372 rfl rfl) ?_
      refine rb_TC.mono (rk_iconst (1 : Int32) d_Law_law_373 (by decide)) ?_
      refine rb_TC.mono (rk_iadd d_Law_law_374) ?_
      refine rt_iald r0 d_Law_law_375 (fun x_90 => ?_)
      refine rt_vI (As := [.int x_90]) (st := []) (r1) vw_Law_74 (s_RB_printedAt (Nat.le_refl _) (r1) (x_90) σ) (Nat.le_trans (by decide) hdd) rfl (by simp [rb_cat_r, rb_cat_i, rb_cat_l]) d_Law_law_376 (fun x_91 σ_92 => ?_)
      refine rb_TC.mono (rk_aload_n 2 d_Law_law_379 rfl rfl) ?_
      refine rb_TC.mono (rk_aload_n 0 d_Law_law_380 rfl rfl) ?_
      refine rb_TC.mono (rk_iload_n 3 d_Law_law_381 rfl rfl) ?_
      refine rb_TC.mono (rk_iconst (1 : Int32) d_Law_law_382 (by decide)) ?_
      refine rb_TC.mono (rk_iadd d_Law_law_383) ?_
      refine rt_iald r0 d_Law_law_384 (fun x_93 => ?_)
      refine rt_vI (As := [.int x_93]) (st := [.int x_91]) (r2) vw_Law_77 (s_M_printedAt (Nat.le_refl _) (r2) (x_93) σ_92) (Nat.le_trans (by decide) hdd) rfl (by simp [rb_cat_r, rb_cat_i, rb_cat_l]) d_Law_law_385 (fun x_94 σ_95 => ?_)
      refine rt_icmp_eq 393 d_Law_law_388 (by decide) (fun _ => ?_) (fun _ => ?_)
      · refine rb_TC.mono (rk_iinc (lv2 := [some (va_rf r0), some (va_rf r1), some (va_rf r2), some (.int (x3 + 3))]) (x3 + 3) d_Law_law_393 rfl rfl (by decide) (fun _ => rb_one_r) rfl) ?_
        refine rb_TC.mono (rk_goto 18 d_Law_law_396 (by decide)) ?_
        exact rb_back
      · refine rb_TC.out ?_
        refine rb_TC.mono (rk_iconst (0 : Int32) d_Law_law_391 (by decide)) ?_
        exact rt_iret (ty := .boolean) rfl (by decide) (fun h => h) d_Law_law_392
    have h_5 := rb_neI h_5
    rw [show ((0 : Int32)).toInt = 0 by decide] at h_5
    have h_12 := rb_neI h_12
    rw [show ((1 : Int32)).toInt = 1 by decide] at h_12
    have h_15 := rb_neI h_15
    rw [show ((2 : Int32)).toInt = 2 by decide] at h_15
    have h_20 := rb_neI h_20
    rw [show ((3 : Int32)).toInt = 3 by decide] at h_20
    have h_25 := rb_neI h_25
    rw [show ((4 : Int32)).toInt = 4 by decide] at h_25
    have h_32 := rb_neI h_32
    rw [show ((5 : Int32)).toInt = 5 by decide] at h_32
    have h_37 := rb_neI h_37
    rw [show ((6 : Int32)).toInt = 6 by decide] at h_37
    have h_44 := rb_neI h_44
    rw [show ((7 : Int32)).toInt = 7 by decide] at h_44
    have h_49 := rb_neI h_49
    rw [show ((8 : Int32)).toInt = 8 by decide] at h_49
    have h_58 := rb_neI h_58
    rw [show ((9 : Int32)).toInt = 9 by decide] at h_58
    have h_65 := rb_neI h_65
    rw [show ((10 : Int32)).toInt = 10 by decide] at h_65
    have h_72 := rb_neI h_72
    rw [show ((11 : Int32)).toInt = 11 by decide] at h_72
    have h_79 := rb_neI h_79
    rw [show ((12 : Int32)).toInt = 12 by decide] at h_79
    have h_84 := rb_neI h_84
    rw [show ((13 : Int32)).toInt = 13 by decide] at h_84
    have h_89 := rb_neI h_89
    rw [show ((14 : Int32)).toInt = 14 by decide] at h_89
    refine rb_TC.mono (rk_tabOut 393 d_Law_law_32 (by omega) (by decide)) ?_
    refine rb_TC.mono (rk_iinc (lv2 := [some (va_rf r0), some (va_rf r1), some (va_rf r2), some (.int (x3 + 3))]) (x3 + 3) d_Law_law_393 rfl rfl (by decide) (fun _ => rb_one_r) rfl) ?_
    refine rb_TC.mono (rk_goto 18 d_Law_law_396 (by decide)) ?_
    exact rb_back
noncomputable def f_Law_law (r0 : Option Nat) (σ : rb_St) : Option rb_Rs :=
  rb_cV (f_RB_init ((rb_n σ))  (rb_nO σ 1)) fun σ_1 => rb_cV (f_M_init ((rb_n σ_1))  (rb_nO σ_1 13)) fun σ_2 => rb_it (fun z : (Int32 × rb_St) => f_Law_law_b18 (r0) ((some (rb_n σ))) ((some (rb_n σ_1))) (z.1) z.2) ((0 : Int32), σ_2)
theorem w_Law_law {E : rb_EV} {d : Nat} (hdd : 166 ≤ d) (r0 : Option Nat) (σ : rb_St) (res : rb_Rs) : rb_TC (f_Law_law r0 σ) (fun r => r = res) (rb_WK E k_Law_law d σ res 0 [some (va_rf r0), none, none, none] [] σ) := by
  unfold f_Law_law
  refine rb_TC.mono (rk_new ow_Law_7 d_Law_law_0) ?_
  refine rb_TC.mono (rk_dupr d_Law_law_3) ?_
  refine rt_i (As := []) (st := [va_rf (some (rb_n σ))]) iw_Law_9 (s_RB_init (Nat.le_refl _) ((rb_n σ))  (rb_nO σ 1)) (Nat.le_trans (by decide) hdd) rfl (by simp [rb_cat_r, rb_cat_i, rb_cat_l]) d_Law_law_4 (fun σ_1 => ?_)
  refine rb_TC.mono (rk_astore_n (lv2 := [some (va_rf r0), some (va_rf (some (rb_n σ))), none, none]) 1 d_Law_law_7 rfl (by decide) (fun _ => rb_one_r) rfl) ?_
  refine rb_TC.mono (rk_new ow_Law_10 d_Law_law_8) ?_
  refine rb_TC.mono (rk_dupr d_Law_law_11) ?_
  refine rt_i (As := []) (st := [va_rf (some (rb_n σ_1))]) iw_Law_12 (s_M_init (Nat.le_refl _) ((rb_n σ_1))  (rb_nO σ_1 13)) (Nat.le_trans (by decide) hdd) rfl (by simp [rb_cat_r, rb_cat_i, rb_cat_l]) d_Law_law_12 (fun σ_2 => ?_)
  refine rb_TC.mono (rk_astore_n (lv2 := [some (va_rf r0), some (va_rf (some (rb_n σ))), some (va_rf (some (rb_n σ_1))), none]) 2 d_Law_law_15 rfl (by decide) (fun _ => rb_one_r) rfl) ?_
  refine rb_TC.mono (rk_iconst (0 : Int32) d_Law_law_16 (by decide)) ?_
  refine rb_TC.mono (rk_istore_n (lv2 := [some (va_rf r0), some (va_rf (some (rb_n σ))), some (va_rf (some (rb_n σ_1))), some (.int (0 : Int32))]) 3 d_Law_law_17 rfl (by decide) (fun _ => rb_one_r) rfl) ?_
  exact rb_TC.loop2 (A := (fun z : (Int32 × rb_St) => rb_WK E k_Law_law d σ res 18 [some (va_rf r0), some (va_rf (some (rb_n σ))), some (va_rf (some (rb_n σ_1))), some (.int z.1)] [] z.2)) ((0 : Int32), σ_2) (fun z => t_Law_law_b18 hdd  (r0) ((some (rb_n σ))) ((some (rb_n σ_1))) (z.1) z.2)
