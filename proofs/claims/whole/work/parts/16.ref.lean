def f_X9_init (l0 : Nat) (M : zM) : Option (zM) := bif Nat.ble 1 l0 then ((mk M 10 69).bind fun M1 => (pR M1 l0 9 58 0 (M.1 + 1)).bind fun M3 => (mk M3 10 69).bind fun M5 => (pR M5 l0 9 58 1 (M3.1 + 1)).bind fun M7 => (mk M7 10 1104).bind fun M9 => (pR M9 l0 9 58 2 (M7.1 + 1)).bind fun M11 => (mk M11 10 8).bind fun M13 => (pR M13 l0 9 58 9 (M11.1 + 1)).bind fun M15 => (mk M15 10 8).bind fun M17 => (pR M17 l0 9 58 10 (M15.1 + 1)).bind fun M19 => (mk M19 10 16).bind fun M21 => (pR M21 l0 9 58 11 (M19.1 + 1)).bind fun M23 => (mk M23 11 8).bind fun M25 => (pR M25 l0 9 58 12 (M23.1 + 1)).bind fun M27 => (mk M27 11 5).bind fun M29 => (pR M29 l0 9 58 13 (M27.1 + 1)).bind fun M31 => (mk M31 10 32).bind fun M33 => (pR M33 l0 9 58 14 (M31.1 + 1)).bind fun M35 => (mk M35 10 240).bind fun M37 => (pR M37 l0 9 58 15 (M35.1 + 1)).bind fun M39 => (pI M39 l0 9 58 20 (-1)).bind fun M41 => (mk M41 10 8).bind fun M43 => (pR M43 l0 9 58 26 (M41.1 + 1)).bind fun M45 => (mk M45 10 8).bind fun M47 => (pR M47 l0 9 58 27 (M45.1 + 1)).bind fun M49 => (mk M49 10 8).bind fun M51 => (pR M51 l0 9 58 28 (M49.1 + 1)).bind fun M53 => (mk M53 10 16).bind fun M55 => (pR M55 l0 9 58 29 (M53.1 + 1)).bind fun M57 => (mk M57 11 8).bind fun M59 => (pR M59 l0 9 58 30 (M57.1 + 1)).bind fun M61 => (mk M61 11 5).bind fun M63 => (pR M63 l0 9 58 31 (M61.1 + 1)).bind fun M65 => (mk M65 10 32).bind fun M67 => (pR M67 l0 9 58 32 (M65.1 + 1)).bind fun M69 => (mk M69 10 8).bind fun M71 => (pR M71 l0 9 58 34 (M69.1 + 1)).bind fun M73 => (mk M73 10 8).bind fun M75 => (pR M75 l0 9 58 36 (M73.1 + 1)).bind fun M77 => (mk M77 10 9).bind fun M79 => (pR M79 l0 9 58 37 (M77.1 + 1)).bind fun M81 => (mk M81 10 9).bind fun M83 => (pR M83 l0 9 58 38 (M81.1 + 1)).bind fun M85 => (mk M85 10 8).bind fun M87 => (pR M87 l0 9 58 39 (M85.1 + 1)).bind fun M89 => (mk M89 10 8).bind fun M91 => (pR M91 l0 9 58 40 (M89.1 + 1)).bind fun M93 => (mk M93 10 8).bind fun M95 => (pR M95 l0 9 58 43 (M93.1 + 1)).bind fun M97 => (mk M97 10 10).bind fun M99 => (pR M99 l0 9 58 46 (M97.1 + 1)).bind fun M101 => (mk M101 10 10).bind fun M103 => (pR M103 l0 9 58 47 (M101.1 + 1)).bind fun M105 => (mk M105 10 6).bind fun M107 => (pR M107 l0 9 58 49 (M105.1 + 1)).bind fun M109 => (mk M109 10 6).bind fun M111 => (pR M111 l0 9 58 50 (M109.1 + 1)).bind fun M113 => (mk M113 11 6).bind fun M115 => (pR M115 l0 9 58 51 (M113.1 + 1)).bind fun M117 => (mk M117 10 15).bind fun M119 => (pR M119 l0 9 58 53 (M117.1 + 1)).bind fun M121 => (mk M121 10 15).bind fun M123 => (pR M123 l0 9 58 54 (M121.1 + 1)).bind fun M125 => (mk M125 11 2).bind fun M127 => (pR M127 l0 9 58 55 (M125.1 + 1)).bind fun M129 => (mk M129 10 138).bind fun M131 => (pR M131 l0 9 58 56 (M129.1 + 1)).bind fun M133 => (mk M133 10 2).bind fun M135 => (pR M135 l0 9 58 57 (M133.1 + 1)).bind fun M137 => some M137) else none
set_option maxRecDepth 100000 in
set_option maxHeartbeats 2000000 in
theorem E_X9_init {G : zG} {d : Nat} {l0 : Nat} {M MR : zM} (h : f_X9_init l0 M = some MR) : Ex G d yX9_init cX9_init 1 none 0 (zent0 [.ref l0] 1) [] M (none, MR) := by
  unfold f_X9_init at h
  obtain ⟨zz0, h⟩ := bt h
  have hl0 := bz zz0
  show Ex _ _ _ _ _ _ 0 [.ref l0] [] _ _
  refine x_aload_n (pc := 0) dX9_init_0 rfl rfl hl0 ?_
  refine y_oinit (pc := 1) dX9_init_1 zm_X9_1 hl0 ?_
  refine x_aload_n (pc := 4) dX9_init_4 rfl rfl hl0 ?_
  refine x_bipush (pc := 5) dX9_init_5 (v := 69) (by decide) ?_
  obtain ⟨M1, e2, h⟩ := ob h
  refine y_newa (pc := 7) dX9_init_7 (N := 69) (by decide) (by decide) (by decide) e2 ?_
  obtain ⟨M3, e4, h⟩ := ob h
  refine y_putF (pc := 9) dX9_init_9 zf_X9_7 rfl (by intro C T n q; cases q; rfl) e4 ?_
  refine x_aload_n (pc := 12) dX9_init_12 rfl rfl hl0 ?_
  refine x_bipush (pc := 13) dX9_init_13 (v := 69) (by decide) ?_
  obtain ⟨M5, e6, h⟩ := ob h
  refine y_newa (pc := 15) dX9_init_15 (N := 69) (by decide) (by decide) (by decide) e6 ?_
  obtain ⟨M7, e8, h⟩ := ob h
  refine y_putF (pc := 17) dX9_init_17 zf_X9_13 rfl (by intro C T n q; cases q; rfl) e8 ?_
  refine x_aload_n (pc := 20) dX9_init_20 rfl rfl hl0 ?_
  refine x_sipush (pc := 21) dX9_init_21 (v := 1104) (by decide) ?_
  obtain ⟨M9, e10, h⟩ := ob h
  refine y_newa (pc := 24) dX9_init_24 (N := 1104) (by decide) (by decide) (by decide) e10 ?_
  obtain ⟨M11, e12, h⟩ := ob h
  refine y_putF (pc := 26) dX9_init_26 zf_X9_16 rfl (by intro C T n q; cases q; rfl) e12 ?_
  refine x_aload_n (pc := 29) dX9_init_29 rfl rfl hl0 ?_
  refine x_bipush (pc := 30) dX9_init_30 (v := 8) (by decide) ?_
  obtain ⟨M13, e14, h⟩ := ob h
  refine y_newa (pc := 32) dX9_init_32 (N := 8) (by decide) (by decide) (by decide) e14 ?_
  obtain ⟨M15, e16, h⟩ := ob h
  refine y_putF (pc := 34) dX9_init_34 zf_X9_19 rfl (by intro C T n q; cases q; rfl) e16 ?_
  refine x_aload_n (pc := 37) dX9_init_37 rfl rfl hl0 ?_
  refine x_bipush (pc := 38) dX9_init_38 (v := 8) (by decide) ?_
  obtain ⟨M17, e18, h⟩ := ob h
  refine y_newa (pc := 40) dX9_init_40 (N := 8) (by decide) (by decide) (by decide) e18 ?_
  obtain ⟨M19, e20, h⟩ := ob h
  refine y_putF (pc := 42) dX9_init_42 zf_X9_22 rfl (by intro C T n q; cases q; rfl) e20 ?_
  refine x_aload_n (pc := 45) dX9_init_45 rfl rfl hl0 ?_
  refine x_bipush (pc := 46) dX9_init_46 (v := 16) (by decide) ?_
  obtain ⟨M21, e22, h⟩ := ob h
  refine y_newa (pc := 48) dX9_init_48 (N := 16) (by decide) (by decide) (by decide) e22 ?_
  obtain ⟨M23, e24, h⟩ := ob h
  refine y_putF (pc := 50) dX9_init_50 zf_X9_25 rfl (by intro C T n q; cases q; rfl) e24 ?_
  refine x_aload_n (pc := 53) dX9_init_53 rfl rfl hl0 ?_
  refine x_bipush (pc := 54) dX9_init_54 (v := 8) (by decide) ?_
  obtain ⟨M25, e26, h⟩ := ob h
  refine y_newz (pc := 56) dX9_init_56 (N := 8) (by decide) (by decide) (by decide) e26 ?_
  obtain ⟨M27, e28, h⟩ := ob h
  refine y_putF (pc := 58) dX9_init_58 zf_X9_28 rfl (by intro C T n q; cases q; rfl) e28 ?_
  refine x_aload_n (pc := 61) dX9_init_61 rfl rfl hl0 ?_
  refine x_iconst (pc := 62) dX9_init_62 (v := 5) rfl ?_
  obtain ⟨M29, e30, h⟩ := ob h
  refine y_newz (pc := 63) dX9_init_63 (N := 5) (by decide) (by decide) (by decide) e30 ?_
  obtain ⟨M31, e32, h⟩ := ob h
  refine y_putF (pc := 65) dX9_init_65 zf_X9_32 rfl (by intro C T n q; cases q; rfl) e32 ?_
  refine x_aload_n (pc := 68) dX9_init_68 rfl rfl hl0 ?_
  refine x_bipush (pc := 69) dX9_init_69 (v := 32) (by decide) ?_
  obtain ⟨M33, e34, h⟩ := ob h
  refine y_newa (pc := 71) dX9_init_71 (N := 32) (by decide) (by decide) (by decide) e34 ?_
  obtain ⟨M35, e36, h⟩ := ob h
  refine y_putF (pc := 73) dX9_init_73 zf_X9_35 rfl (by intro C T n q; cases q; rfl) e36 ?_
  refine x_aload_n (pc := 76) dX9_init_76 rfl rfl hl0 ?_
  refine x_sipush (pc := 77) dX9_init_77 (v := 240) (by decide) ?_
  obtain ⟨M37, e38, h⟩ := ob h
  refine y_newa (pc := 80) dX9_init_80 (N := 240) (by decide) (by decide) (by decide) e38 ?_
  obtain ⟨M39, e40, h⟩ := ob h
  refine y_putF (pc := 82) dX9_init_82 zf_X9_38 rfl (by intro C T n q; cases q; rfl) e40 ?_
  refine x_aload_n (pc := 85) dX9_init_85 rfl rfl hl0 ?_
  refine x_iconst (pc := 86) dX9_init_86 (v := (-1)) rfl ?_
  obtain ⟨M41, e42, h⟩ := ob h
  refine y_putI (pc := 87) dX9_init_87 zf_X9_41 e42 ?_
  refine x_aload_n (pc := 90) dX9_init_90 rfl rfl hl0 ?_
  refine x_bipush (pc := 91) dX9_init_91 (v := 8) (by decide) ?_
  obtain ⟨M43, e44, h⟩ := ob h
  refine y_newa (pc := 93) dX9_init_93 (N := 8) (by decide) (by decide) (by decide) e44 ?_
  obtain ⟨M45, e46, h⟩ := ob h
  refine y_putF (pc := 95) dX9_init_95 zf_X9_45 rfl (by intro C T n q; cases q; rfl) e46 ?_
  refine x_aload_n (pc := 98) dX9_init_98 rfl rfl hl0 ?_
  refine x_bipush (pc := 99) dX9_init_99 (v := 8) (by decide) ?_
  obtain ⟨M47, e48, h⟩ := ob h
  refine y_newa (pc := 101) dX9_init_101 (N := 8) (by decide) (by decide) (by decide) e48 ?_
  obtain ⟨M49, e50, h⟩ := ob h
  refine y_putF (pc := 103) dX9_init_103 zf_X9_48 rfl (by intro C T n q; cases q; rfl) e50 ?_
  refine x_aload_n (pc := 106) dX9_init_106 rfl rfl hl0 ?_
  refine x_bipush (pc := 107) dX9_init_107 (v := 8) (by decide) ?_
  obtain ⟨M51, e52, h⟩ := ob h
  refine y_newa (pc := 109) dX9_init_109 (N := 8) (by decide) (by decide) (by decide) e52 ?_
  obtain ⟨M53, e54, h⟩ := ob h
  refine y_putF (pc := 111) dX9_init_111 zf_X9_51 rfl (by intro C T n q; cases q; rfl) e54 ?_
  refine x_aload_n (pc := 114) dX9_init_114 rfl rfl hl0 ?_
  refine x_bipush (pc := 115) dX9_init_115 (v := 16) (by decide) ?_
  obtain ⟨M55, e56, h⟩ := ob h
  refine y_newa (pc := 117) dX9_init_117 (N := 16) (by decide) (by decide) (by decide) e56 ?_
  obtain ⟨M57, e58, h⟩ := ob h
  refine y_putF (pc := 119) dX9_init_119 zf_X9_54 rfl (by intro C T n q; cases q; rfl) e58 ?_
  refine x_aload_n (pc := 122) dX9_init_122 rfl rfl hl0 ?_
  refine x_bipush (pc := 123) dX9_init_123 (v := 8) (by decide) ?_
  obtain ⟨M59, e60, h⟩ := ob h
  refine y_newz (pc := 125) dX9_init_125 (N := 8) (by decide) (by decide) (by decide) e60 ?_
  obtain ⟨M61, e62, h⟩ := ob h
  refine y_putF (pc := 127) dX9_init_127 zf_X9_57 rfl (by intro C T n q; cases q; rfl) e62 ?_
  refine x_aload_n (pc := 130) dX9_init_130 rfl rfl hl0 ?_
  refine x_iconst (pc := 131) dX9_init_131 (v := 5) rfl ?_
  obtain ⟨M63, e64, h⟩ := ob h
  refine y_newz (pc := 132) dX9_init_132 (N := 5) (by decide) (by decide) (by decide) e64 ?_
  obtain ⟨M65, e66, h⟩ := ob h
  refine y_putF (pc := 134) dX9_init_134 zf_X9_60 rfl (by intro C T n q; cases q; rfl) e66 ?_
  refine x_aload_n (pc := 137) dX9_init_137 rfl rfl hl0 ?_
  refine x_bipush (pc := 138) dX9_init_138 (v := 32) (by decide) ?_
  obtain ⟨M67, e68, h⟩ := ob h
  refine y_newa (pc := 140) dX9_init_140 (N := 32) (by decide) (by decide) (by decide) e68 ?_
  obtain ⟨M69, e70, h⟩ := ob h
  refine y_putF (pc := 142) dX9_init_142 zf_X9_63 rfl (by intro C T n q; cases q; rfl) e70 ?_
  refine x_aload_n (pc := 145) dX9_init_145 rfl rfl hl0 ?_
  refine x_bipush (pc := 146) dX9_init_146 (v := 8) (by decide) ?_
  obtain ⟨M71, e72, h⟩ := ob h
  refine y_newa (pc := 148) dX9_init_148 (N := 8) (by decide) (by decide) (by decide) e72 ?_
  obtain ⟨M73, e74, h⟩ := ob h
  refine y_putF (pc := 150) dX9_init_150 zf_X9_66 rfl (by intro C T n q; cases q; rfl) e74 ?_
  refine x_aload_n (pc := 153) dX9_init_153 rfl rfl hl0 ?_
  refine x_bipush (pc := 154) dX9_init_154 (v := 8) (by decide) ?_
  obtain ⟨M75, e76, h⟩ := ob h
  refine y_newa (pc := 156) dX9_init_156 (N := 8) (by decide) (by decide) (by decide) e76 ?_
  obtain ⟨M77, e78, h⟩ := ob h
  refine y_putF (pc := 158) dX9_init_158 zf_X9_69 rfl (by intro C T n q; cases q; rfl) e78 ?_
  refine x_aload_n (pc := 161) dX9_init_161 rfl rfl hl0 ?_
  refine x_bipush (pc := 162) dX9_init_162 (v := 9) (by decide) ?_
  obtain ⟨M79, e80, h⟩ := ob h
  refine y_newa (pc := 164) dX9_init_164 (N := 9) (by decide) (by decide) (by decide) e80 ?_
  obtain ⟨M81, e82, h⟩ := ob h
  refine y_putF (pc := 166) dX9_init_166 zf_X9_72 rfl (by intro C T n q; cases q; rfl) e82 ?_
  refine x_aload_n (pc := 169) dX9_init_169 rfl rfl hl0 ?_
  refine x_bipush (pc := 170) dX9_init_170 (v := 9) (by decide) ?_
  obtain ⟨M83, e84, h⟩ := ob h
  refine y_newa (pc := 172) dX9_init_172 (N := 9) (by decide) (by decide) (by decide) e84 ?_
  obtain ⟨M85, e86, h⟩ := ob h
  refine y_putF (pc := 174) dX9_init_174 zf_X9_75 rfl (by intro C T n q; cases q; rfl) e86 ?_
  refine x_aload_n (pc := 177) dX9_init_177 rfl rfl hl0 ?_
  refine x_bipush (pc := 178) dX9_init_178 (v := 8) (by decide) ?_
  obtain ⟨M87, e88, h⟩ := ob h
  refine y_newa (pc := 180) dX9_init_180 (N := 8) (by decide) (by decide) (by decide) e88 ?_
  obtain ⟨M89, e90, h⟩ := ob h
  refine y_putF (pc := 182) dX9_init_182 zf_X9_78 rfl (by intro C T n q; cases q; rfl) e90 ?_
  refine x_aload_n (pc := 185) dX9_init_185 rfl rfl hl0 ?_
  refine x_bipush (pc := 186) dX9_init_186 (v := 8) (by decide) ?_
  obtain ⟨M91, e92, h⟩ := ob h
  refine y_newa (pc := 188) dX9_init_188 (N := 8) (by decide) (by decide) (by decide) e92 ?_
  obtain ⟨M93, e94, h⟩ := ob h
  refine y_putF (pc := 190) dX9_init_190 zf_X9_81 rfl (by intro C T n q; cases q; rfl) e94 ?_
  refine x_aload_n (pc := 193) dX9_init_193 rfl rfl hl0 ?_
  refine x_bipush (pc := 194) dX9_init_194 (v := 8) (by decide) ?_
  obtain ⟨M95, e96, h⟩ := ob h
  refine y_newa (pc := 196) dX9_init_196 (N := 8) (by decide) (by decide) (by decide) e96 ?_
  obtain ⟨M97, e98, h⟩ := ob h
  refine y_putF (pc := 198) dX9_init_198 zf_X9_84 rfl (by intro C T n q; cases q; rfl) e98 ?_
  refine x_aload_n (pc := 201) dX9_init_201 rfl rfl hl0 ?_
  refine x_bipush (pc := 202) dX9_init_202 (v := 10) (by decide) ?_
  obtain ⟨M99, e100, h⟩ := ob h
  refine y_newa (pc := 204) dX9_init_204 (N := 10) (by decide) (by decide) (by decide) e100 ?_
  obtain ⟨M101, e102, h⟩ := ob h
  refine y_putF (pc := 206) dX9_init_206 zf_X9_87 rfl (by intro C T n q; cases q; rfl) e102 ?_
  refine x_aload_n (pc := 209) dX9_init_209 rfl rfl hl0 ?_
  refine x_bipush (pc := 210) dX9_init_210 (v := 10) (by decide) ?_
  obtain ⟨M103, e104, h⟩ := ob h
  refine y_newa (pc := 212) dX9_init_212 (N := 10) (by decide) (by decide) (by decide) e104 ?_
  obtain ⟨M105, e106, h⟩ := ob h
  refine y_putF (pc := 214) dX9_init_214 zf_X9_90 rfl (by intro C T n q; cases q; rfl) e106 ?_
  refine x_aload_n (pc := 217) dX9_init_217 rfl rfl hl0 ?_
  refine x_bipush (pc := 218) dX9_init_218 (v := 6) (by decide) ?_
  obtain ⟨M107, e108, h⟩ := ob h
  refine y_newa (pc := 220) dX9_init_220 (N := 6) (by decide) (by decide) (by decide) e108 ?_
  obtain ⟨M109, e110, h⟩ := ob h
  refine y_putF (pc := 222) dX9_init_222 zf_X9_93 rfl (by intro C T n q; cases q; rfl) e110 ?_
  refine x_aload_n (pc := 225) dX9_init_225 rfl rfl hl0 ?_
  refine x_bipush (pc := 226) dX9_init_226 (v := 6) (by decide) ?_
  obtain ⟨M111, e112, h⟩ := ob h
  refine y_newa (pc := 228) dX9_init_228 (N := 6) (by decide) (by decide) (by decide) e112 ?_
  obtain ⟨M113, e114, h⟩ := ob h
  refine y_putF (pc := 230) dX9_init_230 zf_X9_96 rfl (by intro C T n q; cases q; rfl) e114 ?_
  refine x_aload_n (pc := 233) dX9_init_233 rfl rfl hl0 ?_
  refine x_bipush (pc := 234) dX9_init_234 (v := 6) (by decide) ?_
  obtain ⟨M115, e116, h⟩ := ob h
  refine y_newz (pc := 236) dX9_init_236 (N := 6) (by decide) (by decide) (by decide) e116 ?_
  obtain ⟨M117, e118, h⟩ := ob h
  refine y_putF (pc := 238) dX9_init_238 zf_X9_99 rfl (by intro C T n q; cases q; rfl) e118 ?_
  refine x_aload_n (pc := 241) dX9_init_241 rfl rfl hl0 ?_
  refine x_bipush (pc := 242) dX9_init_242 (v := 15) (by decide) ?_
  obtain ⟨M119, e120, h⟩ := ob h
  refine y_newa (pc := 244) dX9_init_244 (N := 15) (by decide) (by decide) (by decide) e120 ?_
  obtain ⟨M121, e122, h⟩ := ob h
  refine y_putF (pc := 246) dX9_init_246 zf_X9_102 rfl (by intro C T n q; cases q; rfl) e122 ?_
  refine x_aload_n (pc := 249) dX9_init_249 rfl rfl hl0 ?_
  refine x_bipush (pc := 250) dX9_init_250 (v := 15) (by decide) ?_
  obtain ⟨M123, e124, h⟩ := ob h
  refine y_newa (pc := 252) dX9_init_252 (N := 15) (by decide) (by decide) (by decide) e124 ?_
  obtain ⟨M125, e126, h⟩ := ob h
  refine y_putF (pc := 254) dX9_init_254 zf_X9_105 rfl (by intro C T n q; cases q; rfl) e126 ?_
  refine x_aload_n (pc := 257) dX9_init_257 rfl rfl hl0 ?_
  refine x_iconst (pc := 258) dX9_init_258 (v := 2) rfl ?_
  obtain ⟨M127, e128, h⟩ := ob h
  refine y_newz (pc := 259) dX9_init_259 (N := 2) (by decide) (by decide) (by decide) e128 ?_
  obtain ⟨M129, e130, h⟩ := ob h
  refine y_putF (pc := 261) dX9_init_261 zf_X9_108 rfl (by intro C T n q; cases q; rfl) e130 ?_
  refine x_aload_n (pc := 264) dX9_init_264 rfl rfl hl0 ?_
  refine x_sipush (pc := 265) dX9_init_265 (v := 138) (by decide) ?_
  obtain ⟨M131, e132, h⟩ := ob h
  refine y_newa (pc := 268) dX9_init_268 (N := 138) (by decide) (by decide) (by decide) e132 ?_
  obtain ⟨M133, e134, h⟩ := ob h
  refine y_putF (pc := 270) dX9_init_270 zf_X9_111 rfl (by intro C T n q; cases q; rfl) e134 ?_
  refine x_aload_n (pc := 273) dX9_init_273 rfl rfl hl0 ?_
  refine x_iconst (pc := 274) dX9_init_274 (v := 2) rfl ?_
  obtain ⟨M135, e136, h⟩ := ob h
  refine y_newa (pc := 275) dX9_init_275 (N := 2) (by decide) (by decide) (by decide) e136 ?_
  obtain ⟨M137, e138, h⟩ := ob h
  refine y_putF (pc := 277) dX9_init_277 zf_X9_114 rfl (by intro C T n q; cases q; rfl) e138 ?_
  obtain rfl := s1 h
  exact x_vret (pc := 280) dX9_init_280 rfl
def f_X9_in (l0 : Int64) (l2 : Int64) (l4 : Int64) (M : zM) : Option (Int32) := if lg_cmp l0 l2 < 0 then (some 0) else (if 0 < lg_cmp l0 l4 then (some 0) else (some 1))
theorem E_X9_in {G : zG} {d : Nat} {l0 : Int64} {l2 : Int64} {l4 : Int64} {M : zM} {r : Int32} (h : f_X9_in l0 l2 l4 M = some r) : Ex G d yX9_in cX9_in 6 (some .boolean) 0 (zent0 [.long l0, .long l2, .long l4] 6) [] M (some (.int r), M) := by
  unfold f_X9_in at h
  show Ex _ _ _ _ _ _ 0 [.long l0, .null, .long l2, .null, .long l4, .null] [] _ _
  refine x_lload_n (pc := 0) dX9_in_0 rfl rfl ?_
  refine x_lload_n (pc := 1) dX9_in_1 rfl rfl ?_
  refine x_lcmp (pc := 2) dX9_in_2 ?_
  refine x_if_lt (pc := 3) dX9_in_3 (t := 17) rfl (fun c1 => ?_) (fun c1 => ?_)
  · rw [if_pos c1] at h
    refine x_iconst (pc := 17) dX9_in_17 (v := 0) rfl ?_
    obtain rfl := s1 h
    exact x_ret (pc := 18) dX9_in_18 (ty := .boolean) rfl rfl
  · rw [if_neg c1] at h
    refine x_lload_n (pc := 6) dX9_in_6 rfl rfl ?_
    refine x_lload (pc := 7) dX9_in_7 rfl ?_
    refine x_lcmp (pc := 9) dX9_in_9 ?_
    refine x_if_gt (pc := 10) dX9_in_10 (t := 17) rfl (fun c2 => ?_) (fun c2 => ?_)
    · rw [if_pos c2] at h
      refine x_iconst (pc := 17) dX9_in_17 (v := 0) rfl ?_
      obtain rfl := s1 h
      exact x_ret (pc := 18) dX9_in_18 (ty := .boolean) rfl rfl
    · rw [if_neg c2] at h
      refine x_iconst (pc := 13) dX9_in_13 (v := 1) rfl ?_
      refine x_goto (pc := 14) dX9_in_14 (t := 18) rfl ?_
      obtain rfl := s1 h
      exact x_ret (pc := 18) dX9_in_18 (ty := .boolean) rfl rfl
def f_X9_isWord (l0 : Nat) (l1 : Int32) (M : zM) : Option (Int32) := bif Nat.ble 1 l0 then ((oI M l0 9 58 6).bind fun v1 => (f_X9_in (Int32.toInt64 l1) 0 (Int32.toInt64 (v1 - 1)) M).bind fun r3 => (zb r3).bind fun v5 => some v5) else none
theorem E_X9_isWord {G : zG} {d : Nat} {l0 : Nat} {l1 : Int32} {M : zM} {r : Int32} (h : f_X9_isWord l0 l1 M = some r) : Ex G (d + 1) yX9_isWord cX9_isWord 2 (some .boolean) 0 (zent0 [.ref l0, .int l1] 2) [] M (some (.int r), M) := by
  unfold f_X9_isWord at h
  obtain ⟨zz0, h⟩ := bt h
  have hl0 := bz zz0
  show Ex _ _ _ _ _ _ 0 [.ref l0, .int l1] [] _ _
  refine x_iload_n (pc := 0) dX9_isWord_0 rfl rfl ?_
  refine x_i2l (pc := 1) dX9_isWord_1 ?_
  refine x_lconst (pc := 2) dX9_isWord_2 (v := 0) rfl ?_
  refine x_aload_n (pc := 3) dX9_isWord_3 rfl rfl hl0 ?_
  obtain ⟨v1, e2, h⟩ := ob h
  refine y_getI (pc := 4) dX9_isWord_4 zf_X9_117 e2 (by decide) ?_
  refine x_iconst (pc := 7) dX9_isWord_7 (v := 1) rfl ?_
  refine x_isub (pc := 8) dX9_isWord_8 ?_
  refine x_i2l (pc := 9) dX9_isWord_9 ?_
  obtain ⟨r3, e4, h⟩ := ob h
  refine x_callS (av := [.long (Int32.toInt64 l1), .long 0, .long (Int32.toInt64 (v1 - 1))]) (st := []) (pc := 10) dX9_isWord_10 (E_X9_in (d := d) e4) rfl (Nat.le_of_ble_eq_true rfl) zc_X9_in rfl zm_X9_120 zs_X9_in rfl (zst_ok rfl (Nat.le_of_ble_eq_true rfl)) rfl ?_
  obtain ⟨v5, e6, h⟩ := ob h
  obtain rfl := s1 h
  exact y_retZ (pc := 13) dX9_isWord_13 rfl e6
def f_X9_isPerson (l0 : Nat) (l1 : Int32) (M : zM) : Option (Int32) := bif Nat.ble 1 l0 then ((oI M l0 9 58 7).bind fun v1 => (f_X9_in (Int32.toInt64 l1) 0 (Int32.toInt64 (v1 - 1)) M).bind fun r3 => (zb r3).bind fun v5 => some v5) else none
theorem E_X9_isPerson {G : zG} {d : Nat} {l0 : Nat} {l1 : Int32} {M : zM} {r : Int32} (h : f_X9_isPerson l0 l1 M = some r) : Ex G (d + 1) yX9_isPerson cX9_isPerson 2 (some .boolean) 0 (zent0 [.ref l0, .int l1] 2) [] M (some (.int r), M) := by
  unfold f_X9_isPerson at h
  obtain ⟨zz0, h⟩ := bt h
  have hl0 := bz zz0
  show Ex _ _ _ _ _ _ 0 [.ref l0, .int l1] [] _ _
  refine x_iload_n (pc := 0) dX9_isPerson_0 rfl rfl ?_
  refine x_i2l (pc := 1) dX9_isPerson_1 ?_
  refine x_lconst (pc := 2) dX9_isPerson_2 (v := 0) rfl ?_
  refine x_aload_n (pc := 3) dX9_isPerson_3 rfl rfl hl0 ?_
  obtain ⟨v1, e2, h⟩ := ob h
  refine y_getI (pc := 4) dX9_isPerson_4 zf_X9_124 e2 (by decide) ?_
  refine x_iconst (pc := 7) dX9_isPerson_7 (v := 1) rfl ?_
  refine x_isub (pc := 8) dX9_isPerson_8 ?_
  refine x_i2l (pc := 9) dX9_isPerson_9 ?_
  obtain ⟨r3, e4, h⟩ := ob h
  refine x_callS (av := [.long (Int32.toInt64 l1), .long 0, .long (Int32.toInt64 (v1 - 1))]) (st := []) (pc := 10) dX9_isPerson_10 (E_X9_in (d := d) e4) rfl (Nat.le_of_ble_eq_true rfl) zc_X9_in rfl zm_X9_120 zs_X9_in rfl (zst_ok rfl (Nat.le_of_ble_eq_true rfl)) rfl ?_
  obtain ⟨v5, e6, h⟩ := ob h
  obtain rfl := s1 h
  exact y_retZ (pc := 13) dX9_isPerson_13 rfl e6
def f_X9_isNeed (l0 : Nat) (l1 : Int32) (M : zM) : Option (Int32) := bif Nat.ble 1 l0 then ((oI M l0 9 58 8).bind fun v1 => (f_X9_in (Int32.toInt64 l1) 0 (Int32.toInt64 (v1 - 1)) M).bind fun r3 => (zb r3).bind fun v5 => some v5) else none
theorem E_X9_isNeed {G : zG} {d : Nat} {l0 : Nat} {l1 : Int32} {M : zM} {r : Int32} (h : f_X9_isNeed l0 l1 M = some r) : Ex G (d + 1) yX9_isNeed cX9_isNeed 2 (some .boolean) 0 (zent0 [.ref l0, .int l1] 2) [] M (some (.int r), M) := by
  unfold f_X9_isNeed at h
  obtain ⟨zz0, h⟩ := bt h
  have hl0 := bz zz0
  show Ex _ _ _ _ _ _ 0 [.ref l0, .int l1] [] _ _
  refine x_iload_n (pc := 0) dX9_isNeed_0 rfl rfl ?_
  refine x_i2l (pc := 1) dX9_isNeed_1 ?_
  refine x_lconst (pc := 2) dX9_isNeed_2 (v := 0) rfl ?_
  refine x_aload_n (pc := 3) dX9_isNeed_3 rfl rfl hl0 ?_
  obtain ⟨v1, e2, h⟩ := ob h
  refine y_getI (pc := 4) dX9_isNeed_4 zf_X9_127 e2 (by decide) ?_
  refine x_iconst (pc := 7) dX9_isNeed_7 (v := 1) rfl ?_
  refine x_isub (pc := 8) dX9_isNeed_8 ?_
  refine x_i2l (pc := 9) dX9_isNeed_9 ?_
  obtain ⟨r3, e4, h⟩ := ob h
  refine x_callS (av := [.long (Int32.toInt64 l1), .long 0, .long (Int32.toInt64 (v1 - 1))]) (st := []) (pc := 10) dX9_isNeed_10 (E_X9_in (d := d) e4) rfl (Nat.le_of_ble_eq_true rfl) zc_X9_in rfl zm_X9_120 zs_X9_in rfl (zst_ok rfl (Nat.le_of_ble_eq_true rfl)) rfl ?_
  obtain ⟨v5, e6, h⟩ := ob h
  obtain rfl := s1 h
  exact y_retZ (pc := 13) dX9_isNeed_13 rfl e6
def f_X9_has (l0 : Int32) (l1 : Int32) (M : zM) : Option (Int32) := if (l0 >>> (l1 &&& 31)) &&& 1 = 1 then (some 1) else (some 0)
theorem E_X9_has {G : zG} {d : Nat} {l0 : Int32} {l1 : Int32} {M : zM} {r : Int32} (h : f_X9_has l0 l1 M = some r) : Ex G d yX9_has cX9_has 2 (some .boolean) 0 (zent0 [.int l0, .int l1] 2) [] M (some (.int r), M) := by
  unfold f_X9_has at h
  show Ex _ _ _ _ _ _ 0 [.int l0, .int l1] [] _ _
  refine x_iload_n (pc := 0) dX9_has_0 rfl rfl ?_
  refine x_iload_n (pc := 1) dX9_has_1 rfl rfl ?_
  refine x_ishr (pc := 2) dX9_has_2 ?_
  refine x_iconst (pc := 3) dX9_has_3 (v := 1) rfl ?_
  refine x_iand (pc := 4) dX9_has_4 ?_
  refine x_iconst (pc := 5) dX9_has_5 (v := 1) rfl ?_
  refine x_icmp_ne (pc := 6) dX9_has_6 (t := 13) rfl (fun c1 => ?_) (fun c1 => ?_)
  · rw [if_neg c1] at h
    refine x_iconst (pc := 13) dX9_has_13 (v := 0) rfl ?_
    obtain rfl := s1 h
    exact x_ret (pc := 14) dX9_has_14 (ty := .boolean) rfl rfl
  · rw [if_pos c1] at h
    refine x_iconst (pc := 9) dX9_has_9 (v := 1) rfl ?_
    refine x_goto (pc := 10) dX9_has_10 (t := 14) rfl ?_
    obtain rfl := s1 h
    exact x_ret (pc := 14) dX9_has_14 (ty := .boolean) rfl rfl
def L_X9_bits_4 : Nat → Int32 → Int32 → Int32 → zM → Option (Int32)
  | 0, _, _, _, _ => none
  | n + 1, l0, l1, l2, M => if 8 ≤ l2 then (some l1) else (L_X9_bits_4 n l0 (l1 + ((l0 >>> (l2 &&& 31)) &&& 1)) (l2 + 1) M)
def f_X9_bits (l0 : Int32) (M : zM) : Option (Int32) := (L_X9_bits_4 zN l0 0 0 M).bind fun v2 => some v2
theorem LX_X9_bits_4 {G : zG} {d : Nat} : ∀ (n : Nat) (l0 : Int32) (l1 : Int32) (l2 : Int32) (M : zM)  (o1 : Int32) {res : Option Value × zM}, L_X9_bits_4 n l0 l1 l2 M = some o1 → Ex G d yX9_bits cX9_bits 3 (some .int) 24 [.null, .int o1, .null] [] M res → Ex G d yX9_bits cX9_bits 3 (some .int) 4 [.int l0, .int l1, .int l2] [] M res := by
  intro n
  induction n with
  | zero =>
    intro l0 l1 l2 M o1 res h K
    simp [L_X9_bits_4] at h
  | succ n ih =>
    intro l0 l1 l2 M o1 res h K
    simp only [L_X9_bits_4] at h
    refine x_iload_n (pc := 4) dX9_bits_4 rfl rfl ?_
    refine x_bipush (pc := 5) dX9_bits_5 (v := 8) (by decide) ?_
    refine x_icmp_ge (pc := 7) dX9_bits_7 (t := 24) rfl (fun c1 => ?_) (fun c1 => ?_)
    · rw [if_pos c1] at h
      obtain rfl := s1 h
      refine ex_weak (Ls2 := [.null, .int l1, .null]) ⟨Or.inl rfl, Or.inr rfl, Or.inl rfl, trivial⟩ ?_
      exact K
    · rw [if_neg c1] at h
      refine x_iload_n (pc := 10) dX9_bits_10 rfl rfl ?_
      refine x_iload_n (pc := 11) dX9_bits_11 rfl rfl ?_
      refine x_iload_n (pc := 12) dX9_bits_12 rfl rfl ?_
      refine x_ishr (pc := 13) dX9_bits_13 ?_
      refine x_iconst (pc := 14) dX9_bits_14 (v := 1) rfl ?_
      refine x_iand (pc := 15) dX9_bits_15 ?_
      refine x_iadd (pc := 16) dX9_bits_16 ?_
      refine x_istore_n (pc := 17) dX9_bits_17 rfl (by decide) rfl ?_
      refine x_iinc (pc := 18) dX9_bits_18 rfl rfl (by decide) rfl ?_
      refine x_goto (pc := 21) dX9_bits_21 (t := 4) rfl ?_
      refine ex_weak (Ls2 := [.int l0, .int (l1 + ((l0 >>> (l2 &&& 31)) &&& 1)), .int (l2 + 1)]) ⟨Or.inr rfl, Or.inr rfl, Or.inr rfl, trivial⟩ ?_
      exact ih _ _ _ _ _ h K
theorem E_X9_bits {G : zG} {d : Nat} {l0 : Int32} {M : zM} {r : Int32} (h : f_X9_bits l0 M = some r) : Ex G d yX9_bits cX9_bits 3 (some .int) 0 (zent0 [.int l0] 3) [] M (some (.int r), M) := by
  unfold f_X9_bits at h
  show Ex _ _ _ _ _ _ 0 [.int l0, .null, .null] [] _ _
  refine x_iconst (pc := 0) dX9_bits_0 (v := 0) rfl ?_
  refine x_istore_n (pc := 1) dX9_bits_1 rfl (by decide) rfl ?_
  refine x_iconst (pc := 2) dX9_bits_2 (v := 0) rfl ?_
  refine x_istore_n (pc := 3) dX9_bits_3 rfl (by decide) rfl ?_
  obtain ⟨v2, e1, h⟩ := ob h
  refine ex_weak (Ls2 := [.int l0, .int 0, .int 0]) ⟨Or.inr rfl, Or.inr rfl, Or.inr rfl, trivial⟩ ?_
  refine LX_X9_bits_4 zN _ _ _ _ _ e1 ?_
  refine x_iload_n (pc := 24) dX9_bits_24 rfl rfl ?_
  obtain rfl := s1 h
  exact y_retI (pc := 25) dX9_bits_25 rfl
def f_X9_up (l0 : Int32) (l1 : Int32) (M : zM) : Option (Int32) := if l0 + l1 ≤ 999999 then (some (l0 + l1)) else (some 999999)
theorem E_X9_up {G : zG} {d : Nat} {l0 : Int32} {l1 : Int32} {M : zM} {r : Int32} (h : f_X9_up l0 l1 M = some r) : Ex G d yX9_up cX9_up 2 (some .int) 0 (zent0 [.int l0, .int l1] 2) [] M (some (.int r), M) := by
  unfold f_X9_up at h
  show Ex _ _ _ _ _ _ 0 [.int l0, .int l1] [] _ _
  refine x_iload_n (pc := 0) dX9_up_0 rfl rfl ?_
  refine x_iload_n (pc := 1) dX9_up_1 rfl rfl ?_
  refine x_iadd (pc := 2) dX9_up_2 ?_
  refine x_ldc (pc := 3) dX9_up_3 zk_X9_130 ?_
  refine x_icmp_le (pc := 5) dX9_up_5 (t := 13) rfl (fun c1 => ?_) (fun c1 => ?_)
  · rw [if_pos c1] at h
    refine x_iload_n (pc := 13) dX9_up_13 rfl rfl ?_
    refine x_iload_n (pc := 14) dX9_up_14 rfl rfl ?_
    refine x_iadd (pc := 15) dX9_up_15 ?_
    obtain rfl := s1 h
    exact y_retI (pc := 16) dX9_up_16 rfl
  · rw [if_neg c1] at h
    refine x_ldc (pc := 8) dX9_up_8 zk_X9_130 ?_
    refine x_goto (pc := 10) dX9_up_10 (t := 16) rfl ?_
    obtain rfl := s1 h
    exact y_retI (pc := 16) dX9_up_16 rfl
def f_X9_person (l0 : Nat) (l1 : Int32) (M : zM) : Option (Int32) := bif Nat.ble 1 l0 then ((oR M l0 9 58 14).bind fun v1 => (aI M v1 (4 * l1)).bind fun v3 => some v3) else none
theorem E_X9_person {G : zG} {d : Nat} {l0 : Nat} {l1 : Int32} {M : zM} {r : Int32} (h : f_X9_person l0 l1 M = some r) : Ex G d yX9_person cX9_person 2 (some .int) 0 (zent0 [.ref l0, .int l1] 2) [] M (some (.int r), M) := by
  unfold f_X9_person at h
  obtain ⟨zz0, h⟩ := bt h
  have hl0 := bz zz0
  show Ex _ _ _ _ _ _ 0 [.ref l0, .int l1] [] _ _
  refine x_aload_n (pc := 0) dX9_person_0 rfl rfl hl0 ?_
  obtain ⟨v1, e2, h⟩ := ob h
  refine y_getR (pc := 1) dX9_person_1 zf_X9_35 e2 ?_
  refine x_iconst (pc := 4) dX9_person_4 (v := 4) rfl ?_
  refine x_iload_n (pc := 5) dX9_person_5 rfl rfl ?_
  refine x_imul (pc := 6) dX9_person_6 ?_
  obtain ⟨v3, e4, h⟩ := ob h
  refine y_iald (pc := 7) dX9_person_7 e4 ?_
  obtain rfl := s1 h
  exact y_retI (pc := 8) dX9_person_8 rfl
def f_X9_wordOf (l0 : Nat) (l1 : Int32) (M : zM) : Option (Int32) := bif Nat.ble 1 l0 then ((oR M l0 9 58 14).bind fun v1 => (aI M v1 ((4 * l1) + 1)).bind fun v3 => some v3) else none
theorem E_X9_wordOf {G : zG} {d : Nat} {l0 : Nat} {l1 : Int32} {M : zM} {r : Int32} (h : f_X9_wordOf l0 l1 M = some r) : Ex G d yX9_wordOf cX9_wordOf 2 (some .int) 0 (zent0 [.ref l0, .int l1] 2) [] M (some (.int r), M) := by
  unfold f_X9_wordOf at h
  obtain ⟨zz0, h⟩ := bt h
  have hl0 := bz zz0
  show Ex _ _ _ _ _ _ 0 [.ref l0, .int l1] [] _ _
  refine x_aload_n (pc := 0) dX9_wordOf_0 rfl rfl hl0 ?_
  obtain ⟨v1, e2, h⟩ := ob h
  refine y_getR (pc := 1) dX9_wordOf_1 zf_X9_35 e2 ?_
  refine x_iconst (pc := 4) dX9_wordOf_4 (v := 4) rfl ?_
  refine x_iload_n (pc := 5) dX9_wordOf_5 rfl rfl ?_
  refine x_imul (pc := 6) dX9_wordOf_6 ?_
  refine x_iconst (pc := 7) dX9_wordOf_7 (v := 1) rfl ?_
  refine x_iadd (pc := 8) dX9_wordOf_8 ?_
  obtain ⟨v3, e4, h⟩ := ob h
  refine y_iald (pc := 9) dX9_wordOf_9 e4 ?_
  obtain rfl := s1 h
  exact y_retI (pc := 10) dX9_wordOf_10 rfl
def f_X9_dayOf (l0 : Nat) (l1 : Int32) (M : zM) : Option (Int32) := bif Nat.ble 1 l0 then ((oR M l0 9 58 14).bind fun v1 => (aI M v1 ((4 * l1) + 2)).bind fun v3 => some v3) else none
theorem E_X9_dayOf {G : zG} {d : Nat} {l0 : Nat} {l1 : Int32} {M : zM} {r : Int32} (h : f_X9_dayOf l0 l1 M = some r) : Ex G d yX9_dayOf cX9_dayOf 2 (some .int) 0 (zent0 [.ref l0, .int l1] 2) [] M (some (.int r), M) := by
  unfold f_X9_dayOf at h
  obtain ⟨zz0, h⟩ := bt h
  have hl0 := bz zz0
  show Ex _ _ _ _ _ _ 0 [.ref l0, .int l1] [] _ _
  refine x_aload_n (pc := 0) dX9_dayOf_0 rfl rfl hl0 ?_
  obtain ⟨v1, e2, h⟩ := ob h
  refine y_getR (pc := 1) dX9_dayOf_1 zf_X9_35 e2 ?_
  refine x_iconst (pc := 4) dX9_dayOf_4 (v := 4) rfl ?_
  refine x_iload_n (pc := 5) dX9_dayOf_5 rfl rfl ?_
  refine x_imul (pc := 6) dX9_dayOf_6 ?_
  refine x_iconst (pc := 7) dX9_dayOf_7 (v := 2) rfl ?_
  refine x_iadd (pc := 8) dX9_dayOf_8 ?_
  obtain ⟨v3, e4, h⟩ := ob h
  refine y_iald (pc := 9) dX9_dayOf_9 e4 ?_
  obtain rfl := s1 h
  exact y_retI (pc := 10) dX9_dayOf_10 rfl
def f_X9_worthOf (l0 : Nat) (l1 : Int32) (M : zM) : Option (Int32) := bif Nat.ble 1 l0 then ((oR M l0 9 58 14).bind fun v1 => (aI M v1 ((4 * l1) + 3)).bind fun v3 => some v3) else none
theorem E_X9_worthOf {G : zG} {d : Nat} {l0 : Nat} {l1 : Int32} {M : zM} {r : Int32} (h : f_X9_worthOf l0 l1 M = some r) : Ex G d yX9_worthOf cX9_worthOf 2 (some .int) 0 (zent0 [.ref l0, .int l1] 2) [] M (some (.int r), M) := by
  unfold f_X9_worthOf at h
  obtain ⟨zz0, h⟩ := bt h
  have hl0 := bz zz0
  show Ex _ _ _ _ _ _ 0 [.ref l0, .int l1] [] _ _
  refine x_aload_n (pc := 0) dX9_worthOf_0 rfl rfl hl0 ?_
  obtain ⟨v1, e2, h⟩ := ob h
  refine y_getR (pc := 1) dX9_worthOf_1 zf_X9_35 e2 ?_
  refine x_iconst (pc := 4) dX9_worthOf_4 (v := 4) rfl ?_
  refine x_iload_n (pc := 5) dX9_worthOf_5 rfl rfl ?_
  refine x_imul (pc := 6) dX9_worthOf_6 ?_
  refine x_iconst (pc := 7) dX9_worthOf_7 (v := 3) rfl ?_
  refine x_iadd (pc := 8) dX9_worthOf_8 ?_
  obtain ⟨v3, e4, h⟩ := ob h
  refine y_iald (pc := 9) dX9_worthOf_9 e4 ?_
  obtain rfl := s1 h
  exact y_retI (pc := 10) dX9_worthOf_10 rfl
def f_X9_feed (l0 : Nat) (l1 : Int32) (M : zM) : Option (Int32 × zM) := bif Nat.ble 1 l0 then ((f_X9_in (Int32.toInt64 l1) 0 255 M).bind fun r1 => if r1 = 0 then (some ((-1000000002), M)) else ((oI M l0 9 58 16).bind fun v4 => if v4 = 240 then (some ((-1000000004), M)) else ((oR M l0 9 58 15).bind fun v7 => (oI M l0 9 58 16).bind fun v9 => (sI M v7 v9 l1).bind fun M11 => (oI M11 l0 9 58 16).bind fun v13 => (pI M11 l0 9 58 16 (v13 + 1)).bind fun M15 => (oI M15 l0 9 58 16).bind fun v17 => some (v17, M15)))) else none
theorem E_X9_feed {G : zG} {d : Nat} {l0 : Nat} {l1 : Int32} {M MR : zM} {r : Int32} (h : f_X9_feed l0 l1 M = some (r, MR)) : Ex G (d + 1) yX9_feed cX9_feed 2 (some .int) 0 (zent0 [.ref l0, .int l1] 2) [] M (some (.int r), MR) := by
  unfold f_X9_feed at h
  obtain ⟨zz0, h⟩ := bt h
  have hl0 := bz zz0
  show Ex _ _ _ _ _ _ 0 [.ref l0, .int l1] [] _ _
  refine x_iload_n (pc := 0) dX9_feed_0 rfl rfl ?_
  refine x_i2l (pc := 1) dX9_feed_1 ?_
  refine x_lconst (pc := 2) dX9_feed_2 (v := 0) rfl ?_
  refine x_ldc2 (pc := 3) dX9_feed_3 zk_X9_131 ?_
  obtain ⟨r1, e2, h⟩ := ob h
  refine x_callS (av := [.long (Int32.toInt64 l1), .long 0, .long 255]) (st := []) (pc := 6) dX9_feed_6 (E_X9_in (d := d) e2) rfl (Nat.le_of_ble_eq_true rfl) zc_X9_in rfl zm_X9_120 zs_X9_in rfl (zst_ok rfl (Nat.le_of_ble_eq_true rfl)) rfl ?_
  refine x_if_ne (pc := 9) dX9_feed_9 (t := 15) rfl (fun c3 => ?_) (fun c3 => ?_)
  · rw [if_neg c3] at h
    refine x_aload_n (pc := 15) dX9_feed_15 rfl rfl hl0 ?_
    obtain ⟨v4, e5, h⟩ := ob h
    refine y_getI (pc := 16) dX9_feed_16 zf_X9_134 e5 (by decide) ?_
    refine x_sipush (pc := 19) dX9_feed_19 (v := 240) (by decide) ?_
    refine x_icmp_ne (pc := 22) dX9_feed_22 (t := 28) rfl (fun c6 => ?_) (fun c6 => ?_)
    · rw [if_neg c6] at h
      refine x_aload_n (pc := 28) dX9_feed_28 rfl rfl hl0 ?_
      obtain ⟨v7, e8, h⟩ := ob h
      refine y_getR (pc := 29) dX9_feed_29 zf_X9_38 e8 ?_
      refine x_aload_n (pc := 32) dX9_feed_32 rfl rfl hl0 ?_
      obtain ⟨v9, e10, h⟩ := ob h
      refine y_getI (pc := 33) dX9_feed_33 zf_X9_134 e10 (by decide) ?_
      refine x_iload_n (pc := 36) dX9_feed_36 rfl rfl ?_
      obtain ⟨M11, e12, h⟩ := ob h
      refine y_iast (pc := 37) dX9_feed_37 e12 ?_
      refine x_aload_n (pc := 38) dX9_feed_38 rfl rfl hl0 ?_
      refine x_dup (pc := 39) dX9_feed_39 rv_cr ?_
      obtain ⟨v13, e14, h⟩ := ob h
      refine y_getI (pc := 40) dX9_feed_40 zf_X9_134 e14 (by decide) ?_
      refine x_iconst (pc := 43) dX9_feed_43 (v := 1) rfl ?_
      refine x_iadd (pc := 44) dX9_feed_44 ?_
      obtain ⟨M15, e16, h⟩ := ob h
      refine y_putI (pc := 45) dX9_feed_45 zf_X9_134 e16 ?_
      refine x_aload_n (pc := 48) dX9_feed_48 rfl rfl hl0 ?_
      obtain ⟨v17, e18, h⟩ := ob h
      refine y_getI (pc := 49) dX9_feed_49 zf_X9_134 e18 (by decide) ?_
      obtain ⟨rfl, rfl⟩ := s2 h
      exact y_retI (pc := 52) dX9_feed_52 rfl
    · rw [if_pos c6] at h
      refine x_ldc (pc := 25) dX9_feed_25 zk_X9_137 ?_
      obtain ⟨rfl, rfl⟩ := s2 h
      exact y_retI (pc := 27) dX9_feed_27 rfl
  · rw [if_pos c3] at h
    refine x_ldc (pc := 12) dX9_feed_12 zk_X9_133 ?_
    obtain ⟨rfl, rfl⟩ := s2 h
    exact y_retI (pc := 14) dX9_feed_14 rfl
def f_X9_bad (l0 : Nat) (l1 : Int32) (l2 : Int32) (M : zM) : Option (zM) := bif Nat.ble 1 l0 then ((oI M l0 9 58 18).bind fun v1 => if v1 = 0 then ((pI M l0 9 58 18 l1).bind fun M4 => (pI M4 l0 9 58 19 l2).bind fun M6 => some M6) else (some M)) else none
theorem E_X9_bad {G : zG} {d : Nat} {l0 : Nat} {l1 : Int32} {l2 : Int32} {M MR : zM} (h : f_X9_bad l0 l1 l2 M = some MR) : Ex G d yX9_bad cX9_bad 3 none 0 (zent0 [.ref l0, .int l1, .int l2] 3) [] M (none, MR) := by
  unfold f_X9_bad at h
  obtain ⟨zz0, h⟩ := bt h
  have hl0 := bz zz0
  show Ex _ _ _ _ _ _ 0 [.ref l0, .int l1, .int l2] [] _ _
  refine x_aload_n (pc := 0) dX9_bad_0 rfl rfl hl0 ?_
  obtain ⟨v1, e2, h⟩ := ob h
  refine y_getI (pc := 1) dX9_bad_1 zf_X9_138 e2 (by decide) ?_
  refine x_if_ne (pc := 4) dX9_bad_4 (t := 17) rfl (fun c3 => ?_) (fun c3 => ?_)
  · rw [if_neg c3] at h
    obtain rfl := s1 h
    exact x_vret (pc := 17) dX9_bad_17 rfl
  · rw [if_pos c3] at h
    refine x_aload_n (pc := 7) dX9_bad_7 rfl rfl hl0 ?_
    refine x_iload_n (pc := 8) dX9_bad_8 rfl rfl ?_
    obtain ⟨M4, e5, h⟩ := ob h
    refine y_putI (pc := 9) dX9_bad_9 zf_X9_138 e5 ?_
    refine x_aload_n (pc := 12) dX9_bad_12 rfl rfl hl0 ?_
    refine x_iload_n (pc := 13) dX9_bad_13 rfl rfl ?_
    obtain ⟨M6, e7, h⟩ := ob h
    refine y_putI (pc := 14) dX9_bad_14 zf_X9_141 e7 ?_
    obtain rfl := s1 h
    exact x_vret (pc := 17) dX9_bad_17 rfl
def L_X9_letterNow_0 : Nat → Nat → zM → Option (zM)
  | 0, _, _ => none
  | n + 1, l0, M => (oI M l0 9 58 18).bind fun v1 => if v1 = 0 then ((oI M l0 9 58 17).bind fun v4 => (oI M l0 9 58 16).bind fun v6 => if v6 ≤ v4 then (some M) else ((oR M l0 9 58 15).bind fun v9 => (oI M l0 9 58 17).bind fun v11 => (aI M v9 v11).bind fun v13 => if v13 = 32 then ((oI M l0 9 58 17).bind fun v16 => (pI M l0 9 58 17 (v16 + 1)).bind fun M18 => L_X9_letterNow_0 n l0 M18) else (some M))) else (some M)
def f_X9_letterNow (l0 : Nat) (M : zM) : Option (Int32 × zM) := bif Nat.ble 1 l0 then ((L_X9_letterNow_0 zN l0 M).bind fun M2 => (oI M2 l0 9 58 18).bind fun v3 => if v3 = 0 then ((oI M2 l0 9 58 17).bind fun v6 => (oI M2 l0 9 58 16).bind fun v8 => if v8 ≤ v6 then (some ((-1), M2)) else ((oR M2 l0 9 58 15).bind fun v11 => (oI M2 l0 9 58 17).bind fun v13 => (aI M2 v11 v13).bind fun v15 => some (v15, M2))) else (some ((-1), M2))) else none
theorem LX_X9_letterNow_0 {G : zG} {d : Nat} : ∀ (n : Nat) (l0 : Nat) (M : zM) (hl0 : l0 ≠ 0) (MX : zM) {res : Option Value × zM}, L_X9_letterNow_0 n l0 M = some MX → Ex G d yX9_letterNow cX9_letterNow 1 (some .int) 45 [.ref l0] [] MX res → Ex G d yX9_letterNow cX9_letterNow 1 (some .int) 0 [.ref l0] [] M res := by
  intro n
  induction n with
  | zero =>
    intro l0 M hl0 MX res h K
    simp [L_X9_letterNow_0] at h
  | succ n ih =>
    intro l0 M hl0 MX res h K
    simp only [L_X9_letterNow_0] at h
    refine x_aload_n (pc := 0) dX9_letterNow_0 rfl rfl hl0 ?_
    obtain ⟨v1, e2, h⟩ := ob h
    refine y_getI (pc := 1) dX9_letterNow_1 zf_X9_138 e2 (by decide) ?_
    refine x_if_ne (pc := 4) dX9_letterNow_4 (t := 45) rfl (fun c3 => ?_) (fun c3 => ?_)
    · rw [if_neg c3] at h
      obtain rfl := s1 h
      refine ex_weak (Ls2 := [.ref l0]) ⟨Or.inr rfl, trivial⟩ ?_
      exact K
    · rw [if_pos c3] at h
      refine x_aload_n (pc := 7) dX9_letterNow_7 rfl rfl hl0 ?_
      obtain ⟨v4, e5, h⟩ := ob h
      refine y_getI (pc := 8) dX9_letterNow_8 zf_X9_144 e5 (by decide) ?_
      refine x_aload_n (pc := 11) dX9_letterNow_11 rfl rfl hl0 ?_
      obtain ⟨v6, e7, h⟩ := ob h
      refine y_getI (pc := 12) dX9_letterNow_12 zf_X9_134 e7 (by decide) ?_
      refine x_icmp_ge (pc := 15) dX9_letterNow_15 (t := 45) rfl (fun c8 => ?_) (fun c8 => ?_)
      · rw [if_pos c8] at h
        obtain rfl := s1 h
        refine ex_weak (Ls2 := [.ref l0]) ⟨Or.inr rfl, trivial⟩ ?_
        exact K
      · rw [if_neg c8] at h
        refine x_aload_n (pc := 18) dX9_letterNow_18 rfl rfl hl0 ?_
        obtain ⟨v9, e10, h⟩ := ob h
        refine y_getR (pc := 19) dX9_letterNow_19 zf_X9_38 e10 ?_
        refine x_aload_n (pc := 22) dX9_letterNow_22 rfl rfl hl0 ?_
        obtain ⟨v11, e12, h⟩ := ob h
        refine y_getI (pc := 23) dX9_letterNow_23 zf_X9_144 e12 (by decide) ?_
        obtain ⟨v13, e14, h⟩ := ob h
        refine y_iald (pc := 26) dX9_letterNow_26 e14 ?_
        refine x_bipush (pc := 27) dX9_letterNow_27 (v := 32) (by decide) ?_
        refine x_icmp_ne (pc := 29) dX9_letterNow_29 (t := 45) rfl (fun c15 => ?_) (fun c15 => ?_)
        · rw [if_neg c15] at h
          obtain rfl := s1 h
          refine ex_weak (Ls2 := [.ref l0]) ⟨Or.inr rfl, trivial⟩ ?_
          exact K
        · rw [if_pos c15] at h
          refine x_aload_n (pc := 32) dX9_letterNow_32 rfl rfl hl0 ?_
          refine x_dup (pc := 33) dX9_letterNow_33 rv_cr ?_
          obtain ⟨v16, e17, h⟩ := ob h
          refine y_getI (pc := 34) dX9_letterNow_34 zf_X9_144 e17 (by decide) ?_
          refine x_iconst (pc := 37) dX9_letterNow_37 (v := 1) rfl ?_
          refine x_iadd (pc := 38) dX9_letterNow_38 ?_
          obtain ⟨M18, e19, h⟩ := ob h
          refine y_putI (pc := 39) dX9_letterNow_39 zf_X9_144 e19 ?_
          refine x_goto (pc := 42) dX9_letterNow_42 (t := 0) rfl ?_
          refine ex_weak (Ls2 := [.ref l0]) ⟨Or.inr rfl, trivial⟩ ?_
          exact ih _ _ hl0  _ h K
theorem E_X9_letterNow {G : zG} {d : Nat} {l0 : Nat} {M MR : zM} {r : Int32} (h : f_X9_letterNow l0 M = some (r, MR)) : Ex G d yX9_letterNow cX9_letterNow 1 (some .int) 0 (zent0 [.ref l0] 1) [] M (some (.int r), MR) := by
  unfold f_X9_letterNow at h
  obtain ⟨zz0, h⟩ := bt h
  have hl0 := bz zz0
  show Ex _ _ _ _ _ _ 0 [.ref l0] [] _ _
  obtain ⟨M2, e1, h⟩ := ob h
  refine ex_weak (Ls2 := [.ref l0]) ⟨Or.inr rfl, trivial⟩ ?_
  refine LX_X9_letterNow_0 zN _ _ hl0 _ e1 ?_
  refine x_aload_n (pc := 45) dX9_letterNow_45 rfl rfl hl0 ?_
  obtain ⟨v3, e4, h⟩ := ob h
  refine y_getI (pc := 46) dX9_letterNow_46 zf_X9_138 e4 (by decide) ?_
  refine x_if_ne (pc := 49) dX9_letterNow_49 (t := 75) rfl (fun c5 => ?_) (fun c5 => ?_)
  · rw [if_neg c5] at h
    refine x_iconst (pc := 75) dX9_letterNow_75 (v := (-1)) rfl ?_
    obtain ⟨rfl, rfl⟩ := s2 h
    exact y_retI (pc := 76) dX9_letterNow_76 rfl
  · rw [if_pos c5] at h
    refine x_aload_n (pc := 52) dX9_letterNow_52 rfl rfl hl0 ?_
    obtain ⟨v6, e7, h⟩ := ob h
    refine y_getI (pc := 53) dX9_letterNow_53 zf_X9_144 e7 (by decide) ?_
    refine x_aload_n (pc := 56) dX9_letterNow_56 rfl rfl hl0 ?_
    obtain ⟨v8, e9, h⟩ := ob h
    refine y_getI (pc := 57) dX9_letterNow_57 zf_X9_134 e9 (by decide) ?_
    refine x_icmp_ge (pc := 60) dX9_letterNow_60 (t := 75) rfl (fun c10 => ?_) (fun c10 => ?_)
    · rw [if_pos c10] at h
      refine x_iconst (pc := 75) dX9_letterNow_75 (v := (-1)) rfl ?_
      obtain ⟨rfl, rfl⟩ := s2 h
      exact y_retI (pc := 76) dX9_letterNow_76 rfl
    · rw [if_neg c10] at h
      refine x_aload_n (pc := 63) dX9_letterNow_63 rfl rfl hl0 ?_
      obtain ⟨v11, e12, h⟩ := ob h
      refine y_getR (pc := 64) dX9_letterNow_64 zf_X9_38 e12 ?_
      refine x_aload_n (pc := 67) dX9_letterNow_67 rfl rfl hl0 ?_
      obtain ⟨v13, e14, h⟩ := ob h
      refine y_getI (pc := 68) dX9_letterNow_68 zf_X9_144 e14 (by decide) ?_
      obtain ⟨v15, e16, h⟩ := ob h
      refine y_iald (pc := 71) dX9_letterNow_71 e16 ?_
      refine x_goto (pc := 72) dX9_letterNow_72 (t := 76) rfl ?_
      obtain ⟨rfl, rfl⟩ := s2 h
      exact y_retI (pc := 76) dX9_letterNow_76 rfl
def f_X9_isFigure (l0 : Int32) (M : zM) : Option (Int32) := if l0 < 48 then (some 0) else (if 57 < l0 then (some 0) else (some 1))
theorem E_X9_isFigure {G : zG} {d : Nat} {l0 : Int32} {M : zM} {r : Int32} (h : f_X9_isFigure l0 M = some r) : Ex G d yX9_isFigure cX9_isFigure 1 (some .boolean) 0 (zent0 [.int l0] 1) [] M (some (.int r), M) := by
  unfold f_X9_isFigure at h
  show Ex _ _ _ _ _ _ 0 [.int l0] [] _ _
  refine x_iload_n (pc := 0) dX9_isFigure_0 rfl rfl ?_
  refine x_bipush (pc := 1) dX9_isFigure_1 (v := 48) (by decide) ?_
  refine x_icmp_lt (pc := 3) dX9_isFigure_3 (t := 16) rfl (fun c1 => ?_) (fun c1 => ?_)
  · rw [if_pos c1] at h
    refine x_iconst (pc := 16) dX9_isFigure_16 (v := 0) rfl ?_
    obtain rfl := s1 h
    exact x_ret (pc := 17) dX9_isFigure_17 (ty := .boolean) rfl rfl
  · rw [if_neg c1] at h
    refine x_iload_n (pc := 6) dX9_isFigure_6 rfl rfl ?_
    refine x_bipush (pc := 7) dX9_isFigure_7 (v := 57) (by decide) ?_
    refine x_icmp_gt (pc := 9) dX9_isFigure_9 (t := 16) rfl (fun c2 => ?_) (fun c2 => ?_)
    · rw [if_pos c2] at h
      refine x_iconst (pc := 16) dX9_isFigure_16 (v := 0) rfl ?_
      obtain rfl := s1 h
      exact x_ret (pc := 17) dX9_isFigure_17 (ty := .boolean) rfl rfl
    · rw [if_neg c2] at h
      refine x_iconst (pc := 12) dX9_isFigure_12 (v := 1) rfl ?_
      refine x_goto (pc := 13) dX9_isFigure_13 (t := 17) rfl ?_
      obtain rfl := s1 h
      exact x_ret (pc := 17) dX9_isFigure_17 (ty := .boolean) rfl rfl
def L_X9_number_32 : Nat → Nat → Int32 → Int32 → Int32 → Int32 → zM → Option (Int32 × zM)
  | 0, _, _, _, _, _, _ => none
  | n + 1, l0, l1, l2, l4, l5, M => (oI M l0 9 58 17).bind fun v14 => (oI M l0 9 58 16).bind fun v16 => if v16 ≤ v14 then (some (l5, M)) else ((oR M l0 9 58 15).bind fun v19 => (oI M l0 9 58 17).bind fun v21 => (aI M v19 v21).bind fun v23 => (f_X9_isFigure v23 M).bind fun r25 => if r25 = 0 then (some (l5, M)) else (if l5 ≤ 9999 then ((oR M l0 9 58 15).bind fun v29 => (oI M l0 9 58 17).bind fun v31 => (aI M v29 v31).bind fun v33 => (oI M l0 9 58 17).bind fun v35 => (pI M l0 9 58 17 (v35 + 1)).bind fun M37 => L_X9_number_32 n l0 l1 l2 l4 (((10 * l5) + v33) - 48) M37) else ((oI M l0 9 58 17).bind fun v39 => (pI M l0 9 58 17 (v39 + 1)).bind fun M41 => L_X9_number_32 n l0 l1 l2 l4 l5 M41)))
def f_X9_number (l0 : Nat) (l1 : Int32) (l2 : Int32) (M : zM) : Option (Int32 × zM) := bif Nat.ble 1 l0 then (bif zac M l0 9 58 then (b2 (f_X9_letterNow l0 M) fun r1 M2 => (oI M2 l0 9 58 17).bind fun v4 => (f_X9_isFigure r1 M2).bind fun r6 => if r6 = 0 then ((oI M2 l0 9 58 17).bind fun v9 => bif zac M2 l0 9 58 then ((f_X9_bad l0 1 v9 M2).bind fun M11 => some (0, M11)) else none) else (b2 (L_X9_number_32 zN l0 l1 l2 v4 0 M2) fun v15 M16 => (oI M16 l0 9 58 17).bind fun v17 => if 3 < v17 - v4 then (bif zac M16 l0 9 58 then ((f_X9_bad l0 2 v4 M16).bind fun M20 => some (v15, M20)) else none) else ((f_X9_in (Int32.toInt64 v15) (Int32.toInt64 l1) (Int32.toInt64 l2) M16).bind fun r23 => if r23 = 0 then (bif zac M16 l0 9 58 then ((f_X9_bad l0 2 v4 M16).bind fun M26 => some (v15, M26)) else none) else (some (v15, M16))))) else none) else none
set_option maxRecDepth 100000 in
set_option maxHeartbeats 2000000 in
theorem LX_X9_number_32 {G : zG} {d : Nat} : ∀ (n : Nat) (l0 : Nat) (l1 : Int32) (l2 : Int32) (l4 : Int32) (l5 : Int32) (M : zM) (hl0 : l0 ≠ 0) (o5 : Int32) (MX : zM) {res : Option Value × zM}, L_X9_number_32 n l0 l1 l2 l4 l5 M = some (o5, MX) → Ex G (d + 1) yX9_number cX9_number 6 (some .int) 104 [.ref l0, .int l1, .int l2, .null, .int l4, .int o5] [] MX res → Ex G (d + 1) yX9_number cX9_number 6 (some .int) 32 [.ref l0, .int l1, .int l2, .null, .int l4, .int l5] [] M res := by
  intro n
  induction n with
  | zero =>
    intro l0 l1 l2 l4 l5 M hl0 o5 MX res h K
    simp [L_X9_number_32] at h
  | succ n ih =>
    intro l0 l1 l2 l4 l5 M hl0 o5 MX res h K
    simp only [L_X9_number_32] at h
    refine x_aload_n (pc := 32) dX9_number_32 rfl rfl hl0 ?_
    obtain ⟨v14, e15, h⟩ := ob h
    refine y_getI (pc := 33) dX9_number_33 zf_X9_144 e15 (by decide) ?_
    refine x_aload_n (pc := 36) dX9_number_36 rfl rfl hl0 ?_
    obtain ⟨v16, e17, h⟩ := ob h
    refine y_getI (pc := 37) dX9_number_37 zf_X9_134 e17 (by decide) ?_
    refine x_icmp_ge (pc := 40) dX9_number_40 (t := 104) rfl (fun c18 => ?_) (fun c18 => ?_)
    · rw [if_pos c18] at h
      obtain ⟨rfl, rfl⟩ := s2 h
      refine ex_weak (Ls2 := [.ref l0, .int l1, .int l2, .null, .int l4, .int l5]) ⟨Or.inr rfl, Or.inr rfl, Or.inr rfl, Or.inl rfl, Or.inr rfl, Or.inr rfl, trivial⟩ ?_
      exact K
    · rw [if_neg c18] at h
      refine x_aload_n (pc := 43) dX9_number_43 rfl rfl hl0 ?_
      obtain ⟨v19, e20, h⟩ := ob h
      refine y_getR (pc := 44) dX9_number_44 zf_X9_38 e20 ?_
      refine x_aload_n (pc := 47) dX9_number_47 rfl rfl hl0 ?_
      obtain ⟨v21, e22, h⟩ := ob h
      refine y_getI (pc := 48) dX9_number_48 zf_X9_144 e22 (by decide) ?_
      obtain ⟨v23, e24, h⟩ := ob h
      refine y_iald (pc := 51) dX9_number_51 e24 ?_
      obtain ⟨r25, e26, h⟩ := ob h
      refine x_callS (av := [.int v23]) (st := []) (pc := 52) dX9_number_52 (E_X9_isFigure (d := d) e26) rfl (Nat.le_of_ble_eq_true rfl) zc_X9_isFigure rfl zm_X9_151 zs_X9_isFigure rfl (zst_ok rfl (Nat.le_of_ble_eq_true rfl)) rfl ?_
      refine x_if_eq (pc := 55) dX9_number_55 (t := 104) rfl (fun c27 => ?_) (fun c27 => ?_)
      · rw [if_pos c27] at h
        obtain ⟨rfl, rfl⟩ := s2 h
        refine ex_weak (Ls2 := [.ref l0, .int l1, .int l2, .null, .int l4, .int l5]) ⟨Or.inr rfl, Or.inr rfl, Or.inr rfl, Or.inl rfl, Or.inr rfl, Or.inr rfl, trivial⟩ ?_
        exact K
      · rw [if_neg c27] at h
        refine x_iload (pc := 58) dX9_number_58 rfl ?_
        refine x_sipush (pc := 60) dX9_number_60 (v := 9999) (by decide) ?_
        refine x_icmp_le (pc := 63) dX9_number_63 (t := 71) rfl (fun c28 => ?_) (fun c28 => ?_)
        · rw [if_pos c28] at h
          refine x_bipush (pc := 71) dX9_number_71 (v := 10) (by decide) ?_
          refine x_iload (pc := 73) dX9_number_73 rfl ?_
          refine x_imul (pc := 75) dX9_number_75 ?_
          refine x_aload_n (pc := 76) dX9_number_76 rfl rfl hl0 ?_
          obtain ⟨v29, e30, h⟩ := ob h
          refine y_getR (pc := 77) dX9_number_77 zf_X9_38 e30 ?_
          refine x_aload_n (pc := 80) dX9_number_80 rfl rfl hl0 ?_
          obtain ⟨v31, e32, h⟩ := ob h
          refine y_getI (pc := 81) dX9_number_81 zf_X9_144 e32 (by decide) ?_
          obtain ⟨v33, e34, h⟩ := ob h
          refine y_iald (pc := 84) dX9_number_84 e34 ?_
          refine x_iadd (pc := 85) dX9_number_85 ?_
          refine x_bipush (pc := 86) dX9_number_86 (v := 48) (by decide) ?_
          refine x_isub (pc := 88) dX9_number_88 ?_
          refine x_istore (pc := 89) dX9_number_89 (by decide) rfl ?_
          refine x_aload_n (pc := 91) dX9_number_91 rfl rfl hl0 ?_
          refine x_dup (pc := 92) dX9_number_92 rv_cr ?_
          obtain ⟨v35, e36, h⟩ := ob h
          refine y_getI (pc := 93) dX9_number_93 zf_X9_144 e36 (by decide) ?_
          refine x_iconst (pc := 96) dX9_number_96 (v := 1) rfl ?_
          refine x_iadd (pc := 97) dX9_number_97 ?_
          obtain ⟨M37, e38, h⟩ := ob h
          refine y_putI (pc := 98) dX9_number_98 zf_X9_144 e38 ?_
          refine x_goto (pc := 101) dX9_number_101 (t := 32) rfl ?_
          refine ex_weak (Ls2 := [.ref l0, .int l1, .int l2, .null, .int l4, .int (((10 * l5) + v33) - 48)]) ⟨Or.inr rfl, Or.inr rfl, Or.inr rfl, Or.inl rfl, Or.inr rfl, Or.inr rfl, trivial⟩ ?_
          exact ih _ _ _ _ _ _ hl0 _ _ h K
        · rw [if_neg c28] at h
          refine x_iload (pc := 66) dX9_number_66 rfl ?_
          refine x_goto (pc := 68) dX9_number_68 (t := 89) rfl ?_
          refine x_istore (pc := 89) dX9_number_89 (by decide) rfl ?_
          refine x_aload_n (pc := 91) dX9_number_91 rfl rfl hl0 ?_
          refine x_dup (pc := 92) dX9_number_92 rv_cr ?_
          obtain ⟨v39, e40, h⟩ := ob h
          refine y_getI (pc := 93) dX9_number_93 zf_X9_144 e40 (by decide) ?_
          refine x_iconst (pc := 96) dX9_number_96 (v := 1) rfl ?_
          refine x_iadd (pc := 97) dX9_number_97 ?_
          obtain ⟨M41, e42, h⟩ := ob h
          refine y_putI (pc := 98) dX9_number_98 zf_X9_144 e42 ?_
          refine x_goto (pc := 101) dX9_number_101 (t := 32) rfl ?_
          refine ex_weak (Ls2 := [.ref l0, .int l1, .int l2, .null, .int l4, .int l5]) ⟨Or.inr rfl, Or.inr rfl, Or.inr rfl, Or.inl rfl, Or.inr rfl, Or.inr rfl, trivial⟩ ?_
          exact ih _ _ _ _ _ _ hl0 _ _ h K
set_option maxRecDepth 100000 in
set_option maxHeartbeats 2000000 in
theorem E_X9_number {G : zG} {d : Nat} {l0 : Nat} {l1 : Int32} {l2 : Int32} {M MR : zM} {r : Int32} (h : f_X9_number l0 l1 l2 M = some (r, MR)) : Ex G (d + 1) yX9_number cX9_number 6 (some .int) 0 (zent0 [.ref l0, .int l1, .int l2] 6) [] M (some (.int r), MR) := by
  unfold f_X9_number at h
  obtain ⟨zz0, h⟩ := bt h
  have hl0 := bz zz0
  show Ex _ _ _ _ _ _ 0 [.ref l0, .int l1, .int l2, .null, .null, .null] [] _ _
  refine x_aload_n (pc := 0) dX9_number_0 rfl rfl hl0 ?_
  obtain ⟨g29, h⟩ := bt h
  obtain ⟨r1, M2, e3, h⟩ := ob2 h
  refine x_callV (av := []) (st := []) (pc := 1) dX9_number_1 (E_X9_letterNow (d := d) e3) rfl (Nat.le_of_ble_eq_true rfl) zc_X9_letterNow rfl zm_X9_147 zi_X9_letterNow zs_X9_letterNow (zac_ok g29) (by decide) rfl rfl (zst_ok rfl (Nat.le_of_ble_eq_true rfl)) rfl ?_
  refine x_istore_n (pc := 4) dX9_number_4 rfl (by decide) rfl ?_
  refine x_aload_n (pc := 5) dX9_number_5 rfl rfl hl0 ?_
  obtain ⟨v4, e5, h⟩ := ob h
  refine y_getI (pc := 6) dX9_number_6 zf_X9_144 e5 (by decide) ?_
  refine x_istore (pc := 9) dX9_number_9 (by decide) rfl ?_
  refine x_iload_n (pc := 11) dX9_number_11 rfl rfl ?_
  obtain ⟨r6, e7, h⟩ := ob h
  refine x_callS (av := [.int r1]) (st := []) (pc := 12) dX9_number_12 (E_X9_isFigure (d := d) e7) rfl (Nat.le_of_ble_eq_true rfl) zc_X9_isFigure rfl zm_X9_151 zs_X9_isFigure rfl (zst_ok rfl (Nat.le_of_ble_eq_true rfl)) rfl ?_
  refine x_if_ne (pc := 15) dX9_number_15 (t := 29) rfl (fun c8 => ?_) (fun c8 => ?_)
  · rw [if_neg c8] at h
    refine x_iconst (pc := 29) dX9_number_29 (v := 0) rfl ?_
    refine x_istore (pc := 30) dX9_number_30 (by decide) rfl ?_
    obtain ⟨v15, M16, e14, h⟩ := ob2 h
    refine ex_weak (Ls2 := [.ref l0, .int l1, .int l2, .null, .int v4, .int 0]) ⟨Or.inr rfl, Or.inr rfl, Or.inr rfl, Or.inl rfl, Or.inr rfl, Or.inr rfl, trivial⟩ ?_
    refine LX_X9_number_32 zN _ _ _ _ _ _ hl0 _ _ e14 ?_
    refine x_aload_n (pc := 104) dX9_number_104 rfl rfl hl0 ?_
    obtain ⟨v17, e18, h⟩ := ob h
    refine y_getI (pc := 105) dX9_number_105 zf_X9_144 e18 (by decide) ?_
    refine x_iload (pc := 108) dX9_number_108 rfl ?_
    refine x_isub (pc := 110) dX9_number_110 ?_
    refine x_iconst (pc := 111) dX9_number_111 (v := 3) rfl ?_
    refine x_icmp_gt (pc := 112) dX9_number_112 (t := 128) rfl (fun c19 => ?_) (fun c19 => ?_)
    · rw [if_pos c19] at h
      refine x_aload_n (pc := 128) dX9_number_128 rfl rfl hl0 ?_
      refine x_iconst (pc := 129) dX9_number_129 (v := 2) rfl ?_
      refine x_iload (pc := 130) dX9_number_130 rfl ?_
      obtain ⟨g22, h⟩ := bt h
      obtain ⟨M20, e21, h⟩ := ob h
      refine x_callV (av := [.int 2, .int v4]) (st := []) (pc := 132) dX9_number_132 (E_X9_bad (d := d) e21) rfl (Nat.le_of_ble_eq_true rfl) zc_X9_bad rfl zm_X9_155 zi_X9_bad zs_X9_bad (zac_ok g22) (by decide) rfl rfl (zst_ok rfl (Nat.le_of_ble_eq_true rfl)) rfl ?_
      refine x_iload (pc := 135) dX9_number_135 rfl ?_
      obtain ⟨rfl, rfl⟩ := s2 h
      exact y_retI (pc := 137) dX9_number_137 rfl
    · rw [if_neg c19] at h
      refine x_iload (pc := 115) dX9_number_115 rfl ?_
      refine x_i2l (pc := 117) dX9_number_117 ?_
      refine x_iload_n (pc := 118) dX9_number_118 rfl rfl ?_
      refine x_i2l (pc := 119) dX9_number_119 ?_
      refine x_iload_n (pc := 120) dX9_number_120 rfl rfl ?_
      refine x_i2l (pc := 121) dX9_number_121 ?_
      obtain ⟨r23, e24, h⟩ := ob h
      refine x_callS (av := [.long (Int32.toInt64 v15), .long (Int32.toInt64 l1), .long (Int32.toInt64 l2)]) (st := []) (pc := 122) dX9_number_122 (E_X9_in (d := d) e24) rfl (Nat.le_of_ble_eq_true rfl) zc_X9_in rfl zm_X9_120 zs_X9_in rfl (zst_ok rfl (Nat.le_of_ble_eq_true rfl)) rfl ?_
      refine x_if_ne (pc := 125) dX9_number_125 (t := 135) rfl (fun c25 => ?_) (fun c25 => ?_)
      · rw [if_neg c25] at h
        refine x_iload (pc := 135) dX9_number_135 rfl ?_
        obtain ⟨rfl, rfl⟩ := s2 h
        exact y_retI (pc := 137) dX9_number_137 rfl
      · rw [if_pos c25] at h
        refine x_aload_n (pc := 128) dX9_number_128 rfl rfl hl0 ?_
        refine x_iconst (pc := 129) dX9_number_129 (v := 2) rfl ?_
        refine x_iload (pc := 130) dX9_number_130 rfl ?_
        obtain ⟨g28, h⟩ := bt h
        obtain ⟨M26, e27, h⟩ := ob h
        refine x_callV (av := [.int 2, .int v4]) (st := []) (pc := 132) dX9_number_132 (E_X9_bad (d := d) e27) rfl (Nat.le_of_ble_eq_true rfl) zc_X9_bad rfl zm_X9_155 zi_X9_bad zs_X9_bad (zac_ok g28) (by decide) rfl rfl (zst_ok rfl (Nat.le_of_ble_eq_true rfl)) rfl ?_
        refine x_iload (pc := 135) dX9_number_135 rfl ?_
        obtain ⟨rfl, rfl⟩ := s2 h
        exact y_retI (pc := 137) dX9_number_137 rfl
  · rw [if_pos c8] at h
    refine x_aload_n (pc := 18) dX9_number_18 rfl rfl hl0 ?_
    refine x_iconst (pc := 19) dX9_number_19 (v := 1) rfl ?_
    refine x_aload_n (pc := 20) dX9_number_20 rfl rfl hl0 ?_
    obtain ⟨v9, e10, h⟩ := ob h
    refine y_getI (pc := 21) dX9_number_21 zf_X9_144 e10 (by decide) ?_
    obtain ⟨g13, h⟩ := bt h
    obtain ⟨M11, e12, h⟩ := ob h
    refine x_callV (av := [.int 1, .int v9]) (st := []) (pc := 24) dX9_number_24 (E_X9_bad (d := d) e12) rfl (Nat.le_of_ble_eq_true rfl) zc_X9_bad rfl zm_X9_155 zi_X9_bad zs_X9_bad (zac_ok g13) (by decide) rfl rfl (zst_ok rfl (Nat.le_of_ble_eq_true rfl)) rfl ?_
    refine x_iconst (pc := 27) dX9_number_27 (v := 0) rfl ?_
    obtain ⟨rfl, rfl⟩ := s2 h
    exact y_retI (pc := 28) dX9_number_28 rfl
def f_X9_wordTold (l0 : Nat) (M : zM) : Option (Int32 × zM) := bif Nat.ble 1 l0 then (bif zac M l0 9 58 then (b2 (f_X9_letterNow l0 M) fun r1 M2 => (oI M2 l0 9 58 17).bind fun v4 => (pI M2 l0 9 58 33 v4).bind fun M6 => (oI M6 l0 9 58 22).bind fun v8 => bif zac M6 l0 9 58 then (b2 (f_X9_number l0 0 (v8 - 1) M6) fun r10 M11 => some (r10, M11)) else none) else none) else none
theorem E_X9_wordTold {G : zG} {d : Nat} {l0 : Nat} {M MR : zM} {r : Int32} (h : f_X9_wordTold l0 M = some (r, MR)) : Ex G (d + 2) yX9_wordTold cX9_wordTold 2 (some .int) 0 (zent0 [.ref l0] 2) [] M (some (.int r), MR) := by
  unfold f_X9_wordTold at h
  obtain ⟨zz0, h⟩ := bt h
  have hl0 := bz zz0
  show Ex _ _ _ _ _ _ 0 [.ref l0, .null] [] _ _
  refine x_aload_n (pc := 0) dX9_wordTold_0 rfl rfl hl0 ?_
  obtain ⟨g14, h⟩ := bt h
  obtain ⟨r1, M2, e3, h⟩ := ob2 h
  refine x_callV (av := []) (st := []) (pc := 1) dX9_wordTold_1 (E_X9_letterNow (d := d + 1) e3) rfl (Nat.le_of_ble_eq_true rfl) zc_X9_letterNow rfl zm_X9_147 zi_X9_letterNow zs_X9_letterNow (zac_ok g14) (by decide) rfl rfl (zst_ok rfl (Nat.le_of_ble_eq_true rfl)) rfl ?_
  refine x_istore_n (pc := 4) dX9_wordTold_4 rfl (by decide) rfl ?_
  refine x_aload_n (pc := 5) dX9_wordTold_5 rfl rfl hl0 ?_
  refine x_aload_n (pc := 6) dX9_wordTold_6 rfl rfl hl0 ?_
  obtain ⟨v4, e5, h⟩ := ob h
  refine y_getI (pc := 7) dX9_wordTold_7 zf_X9_144 e5 (by decide) ?_
  obtain ⟨M6, e7, h⟩ := ob h
  refine y_putI (pc := 10) dX9_wordTold_10 zf_X9_159 e7 ?_
  refine x_aload_n (pc := 13) dX9_wordTold_13 rfl rfl hl0 ?_
  refine x_iconst (pc := 14) dX9_wordTold_14 (v := 0) rfl ?_
  refine x_aload_n (pc := 15) dX9_wordTold_15 rfl rfl hl0 ?_
  obtain ⟨v8, e9, h⟩ := ob h
  refine y_getI (pc := 16) dX9_wordTold_16 zf_X9_162 e9 (by decide) ?_
  refine x_iconst (pc := 19) dX9_wordTold_19 (v := 1) rfl ?_
  refine x_isub (pc := 20) dX9_wordTold_20 ?_
  obtain ⟨g13, h⟩ := bt h
  obtain ⟨r10, M11, e12, h⟩ := ob2 h
  refine x_callV (av := [.int 0, .int (v8 - 1)]) (st := []) (pc := 21) dX9_wordTold_21 (E_X9_number (d := d) e12) rfl (Nat.le_of_ble_eq_true rfl) zc_X9_number rfl zm_X9_165 zi_X9_number zs_X9_number (zac_ok g13) (by decide) rfl rfl (zst_ok rfl (Nat.le_of_ble_eq_true rfl)) rfl ?_
  obtain ⟨rfl, rfl⟩ := s2 h
  exact y_retI (pc := 24) dX9_wordTold_24 rfl
def f_X9_end (l0 : Nat) (M : zM) : Option (zM) := bif Nat.ble 1 l0 then (bif zac M l0 9 58 then (b2 (f_X9_letterNow l0 M) fun r1 M2 => if r1 = 59 then ((oI M2 l0 9 58 17).bind fun v5 => (pI M2 l0 9 58 17 (v5 + 1)).bind fun M7 => some M7) else ((oI M2 l0 9 58 17).bind fun v9 => bif zac M2 l0 9 58 then ((f_X9_bad l0 1 v9 M2).bind fun M11 => some M11) else none)) else none) else none
theorem E_X9_end {G : zG} {d : Nat} {l0 : Nat} {M MR : zM} (h : f_X9_end l0 M = some MR) : Ex G (d + 1) yX9_end cX9_end 1 none 0 (zent0 [.ref l0] 1) [] M (none, MR) := by
  unfold f_X9_end at h
  obtain ⟨zz0, h⟩ := bt h
  have hl0 := bz zz0
  show Ex _ _ _ _ _ _ 0 [.ref l0] [] _ _
  refine x_aload_n (pc := 0) dX9_end_0 rfl rfl hl0 ?_
  obtain ⟨g14, h⟩ := bt h
  obtain ⟨r1, M2, e3, h⟩ := ob2 h
  refine x_callV (av := []) (st := []) (pc := 1) dX9_end_1 (E_X9_letterNow (d := d) e3) rfl (Nat.le_of_ble_eq_true rfl) zc_X9_letterNow rfl zm_X9_147 zi_X9_letterNow zs_X9_letterNow (zac_ok g14) (by decide) rfl rfl (zst_ok rfl (Nat.le_of_ble_eq_true rfl)) rfl ?_
  refine x_bipush (pc := 4) dX9_end_4 (v := 59) (by decide) ?_
  refine x_icmp_ne (pc := 6) dX9_end_6 (t := 22) rfl (fun c4 => ?_) (fun c4 => ?_)
  · rw [if_neg c4] at h
    refine x_aload_n (pc := 22) dX9_end_22 rfl rfl hl0 ?_
    refine x_iconst (pc := 23) dX9_end_23 (v := 1) rfl ?_
    refine x_aload_n (pc := 24) dX9_end_24 rfl rfl hl0 ?_
    obtain ⟨v9, e10, h⟩ := ob h
    refine y_getI (pc := 25) dX9_end_25 zf_X9_144 e10 (by decide) ?_
    obtain ⟨g13, h⟩ := bt h
    obtain ⟨M11, e12, h⟩ := ob h
    refine x_callV (av := [.int 1, .int v9]) (st := []) (pc := 28) dX9_end_28 (E_X9_bad (d := d) e12) rfl (Nat.le_of_ble_eq_true rfl) zc_X9_bad rfl zm_X9_155 zi_X9_bad zs_X9_bad (zac_ok g13) (by decide) rfl rfl (zst_ok rfl (Nat.le_of_ble_eq_true rfl)) rfl ?_
    obtain rfl := s1 h
    exact x_vret (pc := 31) dX9_end_31 rfl
  · rw [if_pos c4] at h
    refine x_aload_n (pc := 9) dX9_end_9 rfl rfl hl0 ?_
    refine x_dup (pc := 10) dX9_end_10 rv_cr ?_
    obtain ⟨v5, e6, h⟩ := ob h
    refine y_getI (pc := 11) dX9_end_11 zf_X9_144 e6 (by decide) ?_
    refine x_iconst (pc := 14) dX9_end_14 (v := 1) rfl ?_
    refine x_iadd (pc := 15) dX9_end_15 ?_
    obtain ⟨M7, e8, h⟩ := ob h
    refine y_putI (pc := 16) dX9_end_16 zf_X9_144 e8 ?_
    refine x_goto (pc := 19) dX9_end_19 (t := 31) rfl ?_
    obtain rfl := s1 h
    exact x_vret (pc := 31) dX9_end_31 rfl
def f_X9_readWord (l0 : Nat) (M : zM) : Option (zM) := bif Nat.ble 1 l0 then ((oI M l0 9 58 22).bind fun v1 => if v1 = 8 then ((oI M l0 9 58 17).bind fun v4 => bif zac M l0 9 58 then ((f_X9_bad l0 3 v4 M).bind fun M6 => (oI M6 l0 9 58 17).bind fun v8 => (pI M6 l0 9 58 17 (v8 + 1)).bind fun M10 => bif zac M10 l0 9 58 then (b2 (f_X9_number l0 0 99 M10) fun r12 M13 => bif zac M13 l0 9 58 then (b2 (f_X9_number l0 1 99 M13) fun r15 M16 => bif zac M16 l0 9 58 then (b2 (f_X9_number l0 0 9 M16) fun r18 M19 => bif zac M19 l0 9 58 then ((f_X9_end l0 M19).bind fun M21 => (oI M21 l0 9 58 18).bind fun v23 => if v23 = 0 then ((oR M21 l0 9 58 26).bind fun v26 => (oI M21 l0 9 58 22).bind fun v28 => (sI M21 v26 v28 r12).bind fun M30 => (oR M30 l0 9 58 27).bind fun v32 => (oI M30 l0 9 58 22).bind fun v34 => (sI M30 v32 v34 r15).bind fun M36 => (oR M36 l0 9 58 28).bind fun v38 => (oI M36 l0 9 58 22).bind fun v40 => (sI M36 v38 v40 r18).bind fun M42 => (oI M42 l0 9 58 22).bind fun v44 => (pI M42 l0 9 58 22 (v44 + 1)).bind fun M46 => some M46) else (some M21)) else none) else none) else none) else none) else none) else ((oI M l0 9 58 17).bind fun v53 => (pI M l0 9 58 17 (v53 + 1)).bind fun M55 => bif zac M55 l0 9 58 then (b2 (f_X9_number l0 0 99 M55) fun r57 M58 => bif zac M58 l0 9 58 then (b2 (f_X9_number l0 1 99 M58) fun r60 M61 => bif zac M61 l0 9 58 then (b2 (f_X9_number l0 0 9 M61) fun r63 M64 => bif zac M64 l0 9 58 then ((f_X9_end l0 M64).bind fun M66 => (oI M66 l0 9 58 18).bind fun v68 => if v68 = 0 then ((oR M66 l0 9 58 26).bind fun v71 => (oI M66 l0 9 58 22).bind fun v73 => (sI M66 v71 v73 r57).bind fun M75 => (oR M75 l0 9 58 27).bind fun v77 => (oI M75 l0 9 58 22).bind fun v79 => (sI M75 v77 v79 r60).bind fun M81 => (oR M81 l0 9 58 28).bind fun v83 => (oI M81 l0 9 58 22).bind fun v85 => (sI M81 v83 v85 r63).bind fun M87 => (oI M87 l0 9 58 22).bind fun v89 => (pI M87 l0 9 58 22 (v89 + 1)).bind fun M91 => some M91) else (some M66)) else none) else none) else none) else none)) else none
theorem E_X9_readWord {G : zG} {d : Nat} {l0 : Nat} {M MR : zM} (h : f_X9_readWord l0 M = some MR) : Ex G (d + 2) yX9_readWord cX9_readWord 4 none 0 (zent0 [.ref l0] 4) [] M (none, MR) := by
  unfold f_X9_readWord at h
  obtain ⟨zz0, h⟩ := bt h
  have hl0 := bz zz0
  show Ex _ _ _ _ _ _ 0 [.ref l0, .null, .null, .null] [] _ _
  refine x_aload_n (pc := 0) dX9_readWord_0 rfl rfl hl0 ?_
  obtain ⟨v1, e2, h⟩ := ob h
  refine y_getI (pc := 1) dX9_readWord_1 zf_X9_162 e2 (by decide) ?_
  refine x_bipush (pc := 4) dX9_readWord_4 (v := 8) (by decide) ?_
  refine x_icmp_ne (pc := 6) dX9_readWord_6 (t := 18) rfl (fun c3 => ?_) (fun c3 => ?_)
  · rw [if_neg c3] at h
    refine x_aload_n (pc := 18) dX9_readWord_18 rfl rfl hl0 ?_
    refine x_dup (pc := 19) dX9_readWord_19 rv_cr ?_
    obtain ⟨v53, e54, h⟩ := ob h
    refine y_getI (pc := 20) dX9_readWord_20 zf_X9_144 e54 (by decide) ?_
    refine x_iconst (pc := 23) dX9_readWord_23 (v := 1) rfl ?_
    refine x_iadd (pc := 24) dX9_readWord_24 ?_
    obtain ⟨M55, e56, h⟩ := ob h
    refine y_putI (pc := 25) dX9_readWord_25 zf_X9_144 e56 ?_
    refine x_aload_n (pc := 28) dX9_readWord_28 rfl rfl hl0 ?_
    refine x_iconst (pc := 29) dX9_readWord_29 (v := 0) rfl ?_
    refine x_bipush (pc := 30) dX9_readWord_30 (v := 99) (by decide) ?_
    obtain ⟨g96, h⟩ := bt h
    obtain ⟨r57, M58, e59, h⟩ := ob2 h
    refine x_callV (av := [.int 0, .int 99]) (st := []) (pc := 32) dX9_readWord_32 (E_X9_number (d := d) e59) rfl (Nat.le_of_ble_eq_true rfl) zc_X9_number rfl zm_X9_165 zi_X9_number zs_X9_number (zac_ok g96) (by decide) rfl rfl (zst_ok rfl (Nat.le_of_ble_eq_true rfl)) rfl ?_
    refine x_istore_n (pc := 35) dX9_readWord_35 rfl (by decide) rfl ?_
    refine x_aload_n (pc := 36) dX9_readWord_36 rfl rfl hl0 ?_
    refine x_iconst (pc := 37) dX9_readWord_37 (v := 1) rfl ?_
    refine x_bipush (pc := 38) dX9_readWord_38 (v := 99) (by decide) ?_
    obtain ⟨g95, h⟩ := bt h
    obtain ⟨r60, M61, e62, h⟩ := ob2 h
    refine x_callV (av := [.int 1, .int 99]) (st := []) (pc := 40) dX9_readWord_40 (E_X9_number (d := d) e62) rfl (Nat.le_of_ble_eq_true rfl) zc_X9_number rfl zm_X9_165 zi_X9_number zs_X9_number (zac_ok g95) (by decide) rfl rfl (zst_ok rfl (Nat.le_of_ble_eq_true rfl)) rfl ?_
    refine x_istore_n (pc := 43) dX9_readWord_43 rfl (by decide) rfl ?_
    refine x_aload_n (pc := 44) dX9_readWord_44 rfl rfl hl0 ?_
    refine x_iconst (pc := 45) dX9_readWord_45 (v := 0) rfl ?_
    refine x_bipush (pc := 46) dX9_readWord_46 (v := 9) (by decide) ?_
    obtain ⟨g94, h⟩ := bt h
    obtain ⟨r63, M64, e65, h⟩ := ob2 h
    refine x_callV (av := [.int 0, .int 9]) (st := []) (pc := 48) dX9_readWord_48 (E_X9_number (d := d) e65) rfl (Nat.le_of_ble_eq_true rfl) zc_X9_number rfl zm_X9_165 zi_X9_number zs_X9_number (zac_ok g94) (by decide) rfl rfl (zst_ok rfl (Nat.le_of_ble_eq_true rfl)) rfl ?_
    refine x_istore_n (pc := 51) dX9_readWord_51 rfl (by decide) rfl ?_
    refine x_aload_n (pc := 52) dX9_readWord_52 rfl rfl hl0 ?_
    obtain ⟨g93, h⟩ := bt h
    obtain ⟨M66, e67, h⟩ := ob h
    refine x_callV (av := []) (st := []) (pc := 53) dX9_readWord_53 (E_X9_end (d := d) e67) rfl (Nat.le_of_ble_eq_true rfl) zc_X9_end rfl zm_X9_169 zi_X9_end zs_X9_end (zac_ok g93) (by decide) rfl rfl (zst_ok rfl (Nat.le_of_ble_eq_true rfl)) rfl ?_
    refine x_aload_n (pc := 56) dX9_readWord_56 rfl rfl hl0 ?_
    obtain ⟨v68, e69, h⟩ := ob h
    refine y_getI (pc := 57) dX9_readWord_57 zf_X9_138 e69 (by decide) ?_
    refine x_if_ne (pc := 60) dX9_readWord_60 (t := 103) rfl (fun c70 => ?_) (fun c70 => ?_)
    · rw [if_neg c70] at h
      obtain rfl := s1 h
      exact x_vret (pc := 103) dX9_readWord_103 rfl
    · rw [if_pos c70] at h
      refine x_aload_n (pc := 63) dX9_readWord_63 rfl rfl hl0 ?_
      obtain ⟨v71, e72, h⟩ := ob h
      refine y_getR (pc := 64) dX9_readWord_64 zf_X9_45 e72 ?_
      refine x_aload_n (pc := 67) dX9_readWord_67 rfl rfl hl0 ?_
      obtain ⟨v73, e74, h⟩ := ob h
      refine y_getI (pc := 68) dX9_readWord_68 zf_X9_162 e74 (by decide) ?_
      refine x_iload_n (pc := 71) dX9_readWord_71 rfl rfl ?_
      obtain ⟨M75, e76, h⟩ := ob h
      refine y_iast (pc := 72) dX9_readWord_72 e76 ?_
      refine x_aload_n (pc := 73) dX9_readWord_73 rfl rfl hl0 ?_
      obtain ⟨v77, e78, h⟩ := ob h
      refine y_getR (pc := 74) dX9_readWord_74 zf_X9_48 e78 ?_
      refine x_aload_n (pc := 77) dX9_readWord_77 rfl rfl hl0 ?_
      obtain ⟨v79, e80, h⟩ := ob h
      refine y_getI (pc := 78) dX9_readWord_78 zf_X9_162 e80 (by decide) ?_
      refine x_iload_n (pc := 81) dX9_readWord_81 rfl rfl ?_
      obtain ⟨M81, e82, h⟩ := ob h
      refine y_iast (pc := 82) dX9_readWord_82 e82 ?_
      refine x_aload_n (pc := 83) dX9_readWord_83 rfl rfl hl0 ?_
      obtain ⟨v83, e84, h⟩ := ob h
      refine y_getR (pc := 84) dX9_readWord_84 zf_X9_51 e84 ?_
      refine x_aload_n (pc := 87) dX9_readWord_87 rfl rfl hl0 ?_
      obtain ⟨v85, e86, h⟩ := ob h
      refine y_getI (pc := 88) dX9_readWord_88 zf_X9_162 e86 (by decide) ?_
      refine x_iload_n (pc := 91) dX9_readWord_91 rfl rfl ?_
      obtain ⟨M87, e88, h⟩ := ob h
      refine y_iast (pc := 92) dX9_readWord_92 e88 ?_
      refine x_aload_n (pc := 93) dX9_readWord_93 rfl rfl hl0 ?_
      refine x_dup (pc := 94) dX9_readWord_94 rv_cr ?_
      obtain ⟨v89, e90, h⟩ := ob h
      refine y_getI (pc := 95) dX9_readWord_95 zf_X9_162 e90 (by decide) ?_
      refine x_iconst (pc := 98) dX9_readWord_98 (v := 1) rfl ?_
      refine x_iadd (pc := 99) dX9_readWord_99 ?_
      obtain ⟨M91, e92, h⟩ := ob h
      refine y_putI (pc := 100) dX9_readWord_100 zf_X9_162 e92 ?_
      obtain rfl := s1 h
      exact x_vret (pc := 103) dX9_readWord_103 rfl
  · rw [if_pos c3] at h
    refine x_aload_n (pc := 9) dX9_readWord_9 rfl rfl hl0 ?_
    refine x_iconst (pc := 10) dX9_readWord_10 (v := 3) rfl ?_
    refine x_aload_n (pc := 11) dX9_readWord_11 rfl rfl hl0 ?_
    obtain ⟨v4, e5, h⟩ := ob h
    refine y_getI (pc := 12) dX9_readWord_12 zf_X9_144 e5 (by decide) ?_
    obtain ⟨g52, h⟩ := bt h
    obtain ⟨M6, e7, h⟩ := ob h
    refine x_callV (av := [.int 3, .int v4]) (st := []) (pc := 15) dX9_readWord_15 (E_X9_bad (d := d + 1) e7) rfl (Nat.le_of_ble_eq_true rfl) zc_X9_bad rfl zm_X9_155 zi_X9_bad zs_X9_bad (zac_ok g52) (by decide) rfl rfl (zst_ok rfl (Nat.le_of_ble_eq_true rfl)) rfl ?_
    refine x_aload_n (pc := 18) dX9_readWord_18 rfl rfl hl0 ?_
    refine x_dup (pc := 19) dX9_readWord_19 rv_cr ?_
    obtain ⟨v8, e9, h⟩ := ob h
    refine y_getI (pc := 20) dX9_readWord_20 zf_X9_144 e9 (by decide) ?_
    refine x_iconst (pc := 23) dX9_readWord_23 (v := 1) rfl ?_
    refine x_iadd (pc := 24) dX9_readWord_24 ?_
    obtain ⟨M10, e11, h⟩ := ob h
    refine y_putI (pc := 25) dX9_readWord_25 zf_X9_144 e11 ?_
    refine x_aload_n (pc := 28) dX9_readWord_28 rfl rfl hl0 ?_
    refine x_iconst (pc := 29) dX9_readWord_29 (v := 0) rfl ?_
    refine x_bipush (pc := 30) dX9_readWord_30 (v := 99) (by decide) ?_
    obtain ⟨g51, h⟩ := bt h
    obtain ⟨r12, M13, e14, h⟩ := ob2 h
    refine x_callV (av := [.int 0, .int 99]) (st := []) (pc := 32) dX9_readWord_32 (E_X9_number (d := d) e14) rfl (Nat.le_of_ble_eq_true rfl) zc_X9_number rfl zm_X9_165 zi_X9_number zs_X9_number (zac_ok g51) (by decide) rfl rfl (zst_ok rfl (Nat.le_of_ble_eq_true rfl)) rfl ?_
    refine x_istore_n (pc := 35) dX9_readWord_35 rfl (by decide) rfl ?_
    refine x_aload_n (pc := 36) dX9_readWord_36 rfl rfl hl0 ?_
    refine x_iconst (pc := 37) dX9_readWord_37 (v := 1) rfl ?_
    refine x_bipush (pc := 38) dX9_readWord_38 (v := 99) (by decide) ?_
    obtain ⟨g50, h⟩ := bt h
    obtain ⟨r15, M16, e17, h⟩ := ob2 h
    refine x_callV (av := [.int 1, .int 99]) (st := []) (pc := 40) dX9_readWord_40 (E_X9_number (d := d) e17) rfl (Nat.le_of_ble_eq_true rfl) zc_X9_number rfl zm_X9_165 zi_X9_number zs_X9_number (zac_ok g50) (by decide) rfl rfl (zst_ok rfl (Nat.le_of_ble_eq_true rfl)) rfl ?_
    refine x_istore_n (pc := 43) dX9_readWord_43 rfl (by decide) rfl ?_
    refine x_aload_n (pc := 44) dX9_readWord_44 rfl rfl hl0 ?_
    refine x_iconst (pc := 45) dX9_readWord_45 (v := 0) rfl ?_
    refine x_bipush (pc := 46) dX9_readWord_46 (v := 9) (by decide) ?_
    obtain ⟨g49, h⟩ := bt h
    obtain ⟨r18, M19, e20, h⟩ := ob2 h
    refine x_callV (av := [.int 0, .int 9]) (st := []) (pc := 48) dX9_readWord_48 (E_X9_number (d := d) e20) rfl (Nat.le_of_ble_eq_true rfl) zc_X9_number rfl zm_X9_165 zi_X9_number zs_X9_number (zac_ok g49) (by decide) rfl rfl (zst_ok rfl (Nat.le_of_ble_eq_true rfl)) rfl ?_
    refine x_istore_n (pc := 51) dX9_readWord_51 rfl (by decide) rfl ?_
    refine x_aload_n (pc := 52) dX9_readWord_52 rfl rfl hl0 ?_
    obtain ⟨g48, h⟩ := bt h
    obtain ⟨M21, e22, h⟩ := ob h
    refine x_callV (av := []) (st := []) (pc := 53) dX9_readWord_53 (E_X9_end (d := d) e22) rfl (Nat.le_of_ble_eq_true rfl) zc_X9_end rfl zm_X9_169 zi_X9_end zs_X9_end (zac_ok g48) (by decide) rfl rfl (zst_ok rfl (Nat.le_of_ble_eq_true rfl)) rfl ?_
    refine x_aload_n (pc := 56) dX9_readWord_56 rfl rfl hl0 ?_
    obtain ⟨v23, e24, h⟩ := ob h
    refine y_getI (pc := 57) dX9_readWord_57 zf_X9_138 e24 (by decide) ?_
    refine x_if_ne (pc := 60) dX9_readWord_60 (t := 103) rfl (fun c25 => ?_) (fun c25 => ?_)
    · rw [if_neg c25] at h
      obtain rfl := s1 h
      exact x_vret (pc := 103) dX9_readWord_103 rfl
    · rw [if_pos c25] at h
      refine x_aload_n (pc := 63) dX9_readWord_63 rfl rfl hl0 ?_
      obtain ⟨v26, e27, h⟩ := ob h
      refine y_getR (pc := 64) dX9_readWord_64 zf_X9_45 e27 ?_
      refine x_aload_n (pc := 67) dX9_readWord_67 rfl rfl hl0 ?_
      obtain ⟨v28, e29, h⟩ := ob h
      refine y_getI (pc := 68) dX9_readWord_68 zf_X9_162 e29 (by decide) ?_
      refine x_iload_n (pc := 71) dX9_readWord_71 rfl rfl ?_
      obtain ⟨M30, e31, h⟩ := ob h
      refine y_iast (pc := 72) dX9_readWord_72 e31 ?_
      refine x_aload_n (pc := 73) dX9_readWord_73 rfl rfl hl0 ?_
      obtain ⟨v32, e33, h⟩ := ob h
      refine y_getR (pc := 74) dX9_readWord_74 zf_X9_48 e33 ?_
      refine x_aload_n (pc := 77) dX9_readWord_77 rfl rfl hl0 ?_
      obtain ⟨v34, e35, h⟩ := ob h
      refine y_getI (pc := 78) dX9_readWord_78 zf_X9_162 e35 (by decide) ?_
      refine x_iload_n (pc := 81) dX9_readWord_81 rfl rfl ?_
      obtain ⟨M36, e37, h⟩ := ob h
      refine y_iast (pc := 82) dX9_readWord_82 e37 ?_
      refine x_aload_n (pc := 83) dX9_readWord_83 rfl rfl hl0 ?_
      obtain ⟨v38, e39, h⟩ := ob h
      refine y_getR (pc := 84) dX9_readWord_84 zf_X9_51 e39 ?_
      refine x_aload_n (pc := 87) dX9_readWord_87 rfl rfl hl0 ?_
      obtain ⟨v40, e41, h⟩ := ob h
      refine y_getI (pc := 88) dX9_readWord_88 zf_X9_162 e41 (by decide) ?_
      refine x_iload_n (pc := 91) dX9_readWord_91 rfl rfl ?_
      obtain ⟨M42, e43, h⟩ := ob h
      refine y_iast (pc := 92) dX9_readWord_92 e43 ?_
      refine x_aload_n (pc := 93) dX9_readWord_93 rfl rfl hl0 ?_
      refine x_dup (pc := 94) dX9_readWord_94 rv_cr ?_
      obtain ⟨v44, e45, h⟩ := ob h
      refine y_getI (pc := 95) dX9_readWord_95 zf_X9_162 e45 (by decide) ?_
      refine x_iconst (pc := 98) dX9_readWord_98 (v := 1) rfl ?_
      refine x_iadd (pc := 99) dX9_readWord_99 ?_
      obtain ⟨M46, e47, h⟩ := ob h
      refine y_putI (pc := 100) dX9_readWord_100 zf_X9_162 e47 ?_
      obtain rfl := s1 h
      exact x_vret (pc := 103) dX9_readWord_103 rfl
def f_X9_readWay (l0 : Nat) (M : zM) : Option (zM) := bif Nat.ble 1 l0 then ((oI M l0 9 58 25).bind fun v1 => if v1 = 10 then ((oI M l0 9 58 17).bind fun v4 => bif zac M l0 9 58 then ((f_X9_bad l0 3 v4 M).bind fun M6 => (oI M6 l0 9 58 17).bind fun v8 => (pI M6 l0 9 58 17 (v8 + 1)).bind fun M10 => bif zac M10 l0 9 58 then (b2 (f_X9_wordTold l0 M10) fun r12 M13 => (oI M13 l0 9 58 18).bind fun v15 => if v15 = 0 then ((oR M13 l0 9 58 29).bind fun v18 => (aI M13 v18 ((2 * r12) + 1)).bind fun v20 => if v20 = 0 then (bif zac M13 l0 9 58 then (b2 (f_X9_letterNow l0 M13) fun r23 M24 => (oI M24 l0 9 58 17).bind fun v26 => bif zac M24 l0 9 58 then (b2 (f_X9_number l0 1 255 M24) fun r28 M29 => (oI M29 l0 9 58 18).bind fun v31 => if v31 = 0 then ((oI M29 l0 9 58 22).bind fun v34 => if r28 >>> (v34 &&& 31) = 0 then ((f_X9_has r28 r12 M29).bind fun r37 => if r37 = 0 then (bif zac M29 l0 9 58 then ((f_X9_end l0 M29).bind fun M40 => (oI M40 l0 9 58 18).bind fun v42 => if v42 = 0 then ((oR M40 l0 9 58 29).bind fun v45 => (oR M40 l0 9 58 29).bind fun v47 => (aI M40 v47 (2 * r12)).bind fun v49 => if v49 = 0 then ((sI M40 v45 (2 * r12) r28).bind fun M52 => (oI M52 l0 9 58 25).bind fun v54 => (pI M52 l0 9 58 25 (v54 + 1)).bind fun M56 => some M56) else ((sI M40 v45 ((2 * r12) + 1) r28).bind fun M58 => (oI M58 l0 9 58 25).bind fun v60 => (pI M58 l0 9 58 25 (v60 + 1)).bind fun M62 => some M62)) else (some M40)) else none) else (bif zac M29 l0 9 58 then ((f_X9_bad l0 2 v26 M29).bind fun M65 => bif zac M65 l0 9 58 then ((f_X9_end l0 M65).bind fun M67 => (oI M67 l0 9 58 18).bind fun v69 => if v69 = 0 then ((oR M67 l0 9 58 29).bind fun v72 => (oR M67 l0 9 58 29).bind fun v74 => (aI M67 v74 (2 * r12)).bind fun v76 => if v76 = 0 then ((sI M67 v72 (2 * r12) r28).bind fun M79 => (oI M79 l0 9 58 25).bind fun v81 => (pI M79 l0 9 58 25 (v81 + 1)).bind fun M83 => some M83) else ((sI M67 v72 ((2 * r12) + 1) r28).bind fun M85 => (oI M85 l0 9 58 25).bind fun v87 => (pI M85 l0 9 58 25 (v87 + 1)).bind fun M89 => some M89)) else (some M67)) else none) else none)) else (bif zac M29 l0 9 58 then ((f_X9_bad l0 2 v26 M29).bind fun M93 => bif zac M93 l0 9 58 then ((f_X9_end l0 M93).bind fun M95 => (oI M95 l0 9 58 18).bind fun v97 => if v97 = 0 then ((oR M95 l0 9 58 29).bind fun v100 => (oR M95 l0 9 58 29).bind fun v102 => (aI M95 v102 (2 * r12)).bind fun v104 => if v104 = 0 then ((sI M95 v100 (2 * r12) r28).bind fun M107 => (oI M107 l0 9 58 25).bind fun v109 => (pI M107 l0 9 58 25 (v109 + 1)).bind fun M111 => some M111) else ((sI M95 v100 ((2 * r12) + 1) r28).bind fun M113 => (oI M113 l0 9 58 25).bind fun v115 => (pI M113 l0 9 58 25 (v115 + 1)).bind fun M117 => some M117)) else (some M95)) else none) else none)) else (bif zac M29 l0 9 58 then ((f_X9_end l0 M29).bind fun M121 => (oI M121 l0 9 58 18).bind fun v123 => if v123 = 0 then ((oR M121 l0 9 58 29).bind fun v126 => (oR M121 l0 9 58 29).bind fun v128 => (aI M121 v128 (2 * r12)).bind fun v130 => if v130 = 0 then ((sI M121 v126 (2 * r12) r28).bind fun M133 => (oI M133 l0 9 58 25).bind fun v135 => (pI M133 l0 9 58 25 (v135 + 1)).bind fun M137 => some M137) else ((sI M121 v126 ((2 * r12) + 1) r28).bind fun M139 => (oI M139 l0 9 58 25).bind fun v141 => (pI M139 l0 9 58 25 (v141 + 1)).bind fun M143 => some M143)) else (some M121)) else none)) else none) else none) else ((oI M13 l0 9 58 33).bind fun v148 => bif zac M13 l0 9 58 then ((f_X9_bad l0 4 v148 M13).bind fun M150 => bif zac M150 l0 9 58 then (b2 (f_X9_letterNow l0 M150) fun r152 M153 => (oI M153 l0 9 58 17).bind fun v155 => bif zac M153 l0 9 58 then (b2 (f_X9_number l0 1 255 M153) fun r157 M158 => (oI M158 l0 9 58 18).bind fun v160 => if v160 = 0 then ((oI M158 l0 9 58 22).bind fun v163 => if r157 >>> (v163 &&& 31) = 0 then ((f_X9_has r157 r12 M158).bind fun r166 => if r166 = 0 then (bif zac M158 l0 9 58 then ((f_X9_end l0 M158).bind fun M169 => (oI M169 l0 9 58 18).bind fun v171 => if v171 = 0 then ((oR M169 l0 9 58 29).bind fun v174 => (oR M169 l0 9 58 29).bind fun v176 => (aI M169 v176 (2 * r12)).bind fun v178 => if v178 = 0 then ((sI M169 v174 (2 * r12) r157).bind fun M181 => (oI M181 l0 9 58 25).bind fun v183 => (pI M181 l0 9 58 25 (v183 + 1)).bind fun M185 => some M185) else ((sI M169 v174 ((2 * r12) + 1) r157).bind fun M187 => (oI M187 l0 9 58 25).bind fun v189 => (pI M187 l0 9 58 25 (v189 + 1)).bind fun M191 => some M191)) else (some M169)) else none) else (bif zac M158 l0 9 58 then ((f_X9_bad l0 2 v155 M158).bind fun M194 => bif zac M194 l0 9 58 then ((f_X9_end l0 M194).bind fun M196 => (oI M196 l0 9 58 18).bind fun v198 => if v198 = 0 then ((oR M196 l0 9 58 29).bind fun v201 => (oR M196 l0 9 58 29).bind fun v203 => (aI M196 v203 (2 * r12)).bind fun v205 => if v205 = 0 then ((sI M196 v201 (2 * r12) r157).bind fun M208 => (oI M208 l0 9 58 25).bind fun v210 => (pI M208 l0 9 58 25 (v210 + 1)).bind fun M212 => some M212) else ((sI M196 v201 ((2 * r12) + 1) r157).bind fun M214 => (oI M214 l0 9 58 25).bind fun v216 => (pI M214 l0 9 58 25 (v216 + 1)).bind fun M218 => some M218)) else (some M196)) else none) else none)) else (bif zac M158 l0 9 58 then ((f_X9_bad l0 2 v155 M158).bind fun M222 => bif zac M222 l0 9 58 then ((f_X9_end l0 M222).bind fun M224 => (oI M224 l0 9 58 18).bind fun v226 => if v226 = 0 then ((oR M224 l0 9 58 29).bind fun v229 => (oR M224 l0 9 58 29).bind fun v231 => (aI M224 v231 (2 * r12)).bind fun v233 => if v233 = 0 then ((sI M224 v229 (2 * r12) r157).bind fun M236 => (oI M236 l0 9 58 25).bind fun v238 => (pI M236 l0 9 58 25 (v238 + 1)).bind fun M240 => some M240) else ((sI M224 v229 ((2 * r12) + 1) r157).bind fun M242 => (oI M242 l0 9 58 25).bind fun v244 => (pI M242 l0 9 58 25 (v244 + 1)).bind fun M246 => some M246)) else (some M224)) else none) else none)) else (bif zac M158 l0 9 58 then ((f_X9_end l0 M158).bind fun M250 => (oI M250 l0 9 58 18).bind fun v252 => if v252 = 0 then ((oR M250 l0 9 58 29).bind fun v255 => (oR M250 l0 9 58 29).bind fun v257 => (aI M250 v257 (2 * r12)).bind fun v259 => if v259 = 0 then ((sI M250 v255 (2 * r12) r157).bind fun M262 => (oI M262 l0 9 58 25).bind fun v264 => (pI M262 l0 9 58 25 (v264 + 1)).bind fun M266 => some M266) else ((sI M250 v255 ((2 * r12) + 1) r157).bind fun M268 => (oI M268 l0 9 58 25).bind fun v270 => (pI M268 l0 9 58 25 (v270 + 1)).bind fun M272 => some M272)) else (some M250)) else none)) else none) else none) else none)) else (bif zac M13 l0 9 58 then (b2 (f_X9_letterNow l0 M13) fun r278 M279 => (oI M279 l0 9 58 17).bind fun v281 => bif zac M279 l0 9 58 then (b2 (f_X9_number l0 1 255 M279) fun r283 M284 => (oI M284 l0 9 58 18).bind fun v286 => if v286 = 0 then ((oI M284 l0 9 58 22).bind fun v289 => if r283 >>> (v289 &&& 31) = 0 then ((f_X9_has r283 r12 M284).bind fun r292 => if r292 = 0 then (bif zac M284 l0 9 58 then ((f_X9_end l0 M284).bind fun M295 => (oI M295 l0 9 58 18).bind fun v297 => if v297 = 0 then ((oR M295 l0 9 58 29).bind fun v300 => (oR M295 l0 9 58 29).bind fun v302 => (aI M295 v302 (2 * r12)).bind fun v304 => if v304 = 0 then ((sI M295 v300 (2 * r12) r283).bind fun M307 => (oI M307 l0 9 58 25).bind fun v309 => (pI M307 l0 9 58 25 (v309 + 1)).bind fun M311 => some M311) else ((sI M295 v300 ((2 * r12) + 1) r283).bind fun M313 => (oI M313 l0 9 58 25).bind fun v315 => (pI M313 l0 9 58 25 (v315 + 1)).bind fun M317 => some M317)) else (some M295)) else none) else (bif zac M284 l0 9 58 then ((f_X9_bad l0 2 v281 M284).bind fun M320 => bif zac M320 l0 9 58 then ((f_X9_end l0 M320).bind fun M322 => (oI M322 l0 9 58 18).bind fun v324 => if v324 = 0 then ((oR M322 l0 9 58 29).bind fun v327 => (oR M322 l0 9 58 29).bind fun v329 => (aI M322 v329 (2 * r12)).bind fun v331 => if v331 = 0 then ((sI M322 v327 (2 * r12) r283).bind fun M334 => (oI M334 l0 9 58 25).bind fun v336 => (pI M334 l0 9 58 25 (v336 + 1)).bind fun M338 => some M338) else ((sI M322 v327 ((2 * r12) + 1) r283).bind fun M340 => (oI M340 l0 9 58 25).bind fun v342 => (pI M340 l0 9 58 25 (v342 + 1)).bind fun M344 => some M344)) else (some M322)) else none) else none)) else (bif zac M284 l0 9 58 then ((f_X9_bad l0 2 v281 M284).bind fun M348 => bif zac M348 l0 9 58 then ((f_X9_end l0 M348).bind fun M350 => (oI M350 l0 9 58 18).bind fun v352 => if v352 = 0 then ((oR M350 l0 9 58 29).bind fun v355 => (oR M350 l0 9 58 29).bind fun v357 => (aI M350 v357 (2 * r12)).bind fun v359 => if v359 = 0 then ((sI M350 v355 (2 * r12) r283).bind fun M362 => (oI M362 l0 9 58 25).bind fun v364 => (pI M362 l0 9 58 25 (v364 + 1)).bind fun M366 => some M366) else ((sI M350 v355 ((2 * r12) + 1) r283).bind fun M368 => (oI M368 l0 9 58 25).bind fun v370 => (pI M368 l0 9 58 25 (v370 + 1)).bind fun M372 => some M372)) else (some M350)) else none) else none)) else (bif zac M284 l0 9 58 then ((f_X9_end l0 M284).bind fun M376 => (oI M376 l0 9 58 18).bind fun v378 => if v378 = 0 then ((oR M376 l0 9 58 29).bind fun v381 => (oR M376 l0 9 58 29).bind fun v383 => (aI M376 v383 (2 * r12)).bind fun v385 => if v385 = 0 then ((sI M376 v381 (2 * r12) r283).bind fun M388 => (oI M388 l0 9 58 25).bind fun v390 => (pI M388 l0 9 58 25 (v390 + 1)).bind fun M392 => some M392) else ((sI M376 v381 ((2 * r12) + 1) r283).bind fun M394 => (oI M394 l0 9 58 25).bind fun v396 => (pI M394 l0 9 58 25 (v396 + 1)).bind fun M398 => some M398)) else (some M376)) else none)) else none) else none)) else none) else none) else ((oI M l0 9 58 17).bind fun v405 => (pI M l0 9 58 17 (v405 + 1)).bind fun M407 => bif zac M407 l0 9 58 then (b2 (f_X9_wordTold l0 M407) fun r409 M410 => (oI M410 l0 9 58 18).bind fun v412 => if v412 = 0 then ((oR M410 l0 9 58 29).bind fun v415 => (aI M410 v415 ((2 * r409) + 1)).bind fun v417 => if v417 = 0 then (bif zac M410 l0 9 58 then (b2 (f_X9_letterNow l0 M410) fun r420 M421 => (oI M421 l0 9 58 17).bind fun v423 => bif zac M421 l0 9 58 then (b2 (f_X9_number l0 1 255 M421) fun r425 M426 => (oI M426 l0 9 58 18).bind fun v428 => if v428 = 0 then ((oI M426 l0 9 58 22).bind fun v431 => if r425 >>> (v431 &&& 31) = 0 then ((f_X9_has r425 r409 M426).bind fun r434 => if r434 = 0 then (bif zac M426 l0 9 58 then ((f_X9_end l0 M426).bind fun M437 => (oI M437 l0 9 58 18).bind fun v439 => if v439 = 0 then ((oR M437 l0 9 58 29).bind fun v442 => (oR M437 l0 9 58 29).bind fun v444 => (aI M437 v444 (2 * r409)).bind fun v446 => if v446 = 0 then ((sI M437 v442 (2 * r409) r425).bind fun M449 => (oI M449 l0 9 58 25).bind fun v451 => (pI M449 l0 9 58 25 (v451 + 1)).bind fun M453 => some M453) else ((sI M437 v442 ((2 * r409) + 1) r425).bind fun M455 => (oI M455 l0 9 58 25).bind fun v457 => (pI M455 l0 9 58 25 (v457 + 1)).bind fun M459 => some M459)) else (some M437)) else none) else (bif zac M426 l0 9 58 then ((f_X9_bad l0 2 v423 M426).bind fun M462 => bif zac M462 l0 9 58 then ((f_X9_end l0 M462).bind fun M464 => (oI M464 l0 9 58 18).bind fun v466 => if v466 = 0 then ((oR M464 l0 9 58 29).bind fun v469 => (oR M464 l0 9 58 29).bind fun v471 => (aI M464 v471 (2 * r409)).bind fun v473 => if v473 = 0 then ((sI M464 v469 (2 * r409) r425).bind fun M476 => (oI M476 l0 9 58 25).bind fun v478 => (pI M476 l0 9 58 25 (v478 + 1)).bind fun M480 => some M480) else ((sI M464 v469 ((2 * r409) + 1) r425).bind fun M482 => (oI M482 l0 9 58 25).bind fun v484 => (pI M482 l0 9 58 25 (v484 + 1)).bind fun M486 => some M486)) else (some M464)) else none) else none)) else (bif zac M426 l0 9 58 then ((f_X9_bad l0 2 v423 M426).bind fun M490 => bif zac M490 l0 9 58 then ((f_X9_end l0 M490).bind fun M492 => (oI M492 l0 9 58 18).bind fun v494 => if v494 = 0 then ((oR M492 l0 9 58 29).bind fun v497 => (oR M492 l0 9 58 29).bind fun v499 => (aI M492 v499 (2 * r409)).bind fun v501 => if v501 = 0 then ((sI M492 v497 (2 * r409) r425).bind fun M504 => (oI M504 l0 9 58 25).bind fun v506 => (pI M504 l0 9 58 25 (v506 + 1)).bind fun M508 => some M508) else ((sI M492 v497 ((2 * r409) + 1) r425).bind fun M510 => (oI M510 l0 9 58 25).bind fun v512 => (pI M510 l0 9 58 25 (v512 + 1)).bind fun M514 => some M514)) else (some M492)) else none) else none)) else (bif zac M426 l0 9 58 then ((f_X9_end l0 M426).bind fun M518 => (oI M518 l0 9 58 18).bind fun v520 => if v520 = 0 then ((oR M518 l0 9 58 29).bind fun v523 => (oR M518 l0 9 58 29).bind fun v525 => (aI M518 v525 (2 * r409)).bind fun v527 => if v527 = 0 then ((sI M518 v523 (2 * r409) r425).bind fun M530 => (oI M530 l0 9 58 25).bind fun v532 => (pI M530 l0 9 58 25 (v532 + 1)).bind fun M534 => some M534) else ((sI M518 v523 ((2 * r409) + 1) r425).bind fun M536 => (oI M536 l0 9 58 25).bind fun v538 => (pI M536 l0 9 58 25 (v538 + 1)).bind fun M540 => some M540)) else (some M518)) else none)) else none) else none) else ((oI M410 l0 9 58 33).bind fun v545 => bif zac M410 l0 9 58 then ((f_X9_bad l0 4 v545 M410).bind fun M547 => bif zac M547 l0 9 58 then (b2 (f_X9_letterNow l0 M547) fun r549 M550 => (oI M550 l0 9 58 17).bind fun v552 => bif zac M550 l0 9 58 then (b2 (f_X9_number l0 1 255 M550) fun r554 M555 => (oI M555 l0 9 58 18).bind fun v557 => if v557 = 0 then ((oI M555 l0 9 58 22).bind fun v560 => if r554 >>> (v560 &&& 31) = 0 then ((f_X9_has r554 r409 M555).bind fun r563 => if r563 = 0 then (bif zac M555 l0 9 58 then ((f_X9_end l0 M555).bind fun M566 => (oI M566 l0 9 58 18).bind fun v568 => if v568 = 0 then ((oR M566 l0 9 58 29).bind fun v571 => (oR M566 l0 9 58 29).bind fun v573 => (aI M566 v573 (2 * r409)).bind fun v575 => if v575 = 0 then ((sI M566 v571 (2 * r409) r554).bind fun M578 => (oI M578 l0 9 58 25).bind fun v580 => (pI M578 l0 9 58 25 (v580 + 1)).bind fun M582 => some M582) else ((sI M566 v571 ((2 * r409) + 1) r554).bind fun M584 => (oI M584 l0 9 58 25).bind fun v586 => (pI M584 l0 9 58 25 (v586 + 1)).bind fun M588 => some M588)) else (some M566)) else none) else (bif zac M555 l0 9 58 then ((f_X9_bad l0 2 v552 M555).bind fun M591 => bif zac M591 l0 9 58 then ((f_X9_end l0 M591).bind fun M593 => (oI M593 l0 9 58 18).bind fun v595 => if v595 = 0 then ((oR M593 l0 9 58 29).bind fun v598 => (oR M593 l0 9 58 29).bind fun v600 => (aI M593 v600 (2 * r409)).bind fun v602 => if v602 = 0 then ((sI M593 v598 (2 * r409) r554).bind fun M605 => (oI M605 l0 9 58 25).bind fun v607 => (pI M605 l0 9 58 25 (v607 + 1)).bind fun M609 => some M609) else ((sI M593 v598 ((2 * r409) + 1) r554).bind fun M611 => (oI M611 l0 9 58 25).bind fun v613 => (pI M611 l0 9 58 25 (v613 + 1)).bind fun M615 => some M615)) else (some M593)) else none) else none)) else (bif zac M555 l0 9 58 then ((f_X9_bad l0 2 v552 M555).bind fun M619 => bif zac M619 l0 9 58 then ((f_X9_end l0 M619).bind fun M621 => (oI M621 l0 9 58 18).bind fun v623 => if v623 = 0 then ((oR M621 l0 9 58 29).bind fun v626 => (oR M621 l0 9 58 29).bind fun v628 => (aI M621 v628 (2 * r409)).bind fun v630 => if v630 = 0 then ((sI M621 v626 (2 * r409) r554).bind fun M633 => (oI M633 l0 9 58 25).bind fun v635 => (pI M633 l0 9 58 25 (v635 + 1)).bind fun M637 => some M637) else ((sI M621 v626 ((2 * r409) + 1) r554).bind fun M639 => (oI M639 l0 9 58 25).bind fun v641 => (pI M639 l0 9 58 25 (v641 + 1)).bind fun M643 => some M643)) else (some M621)) else none) else none)) else (bif zac M555 l0 9 58 then ((f_X9_end l0 M555).bind fun M647 => (oI M647 l0 9 58 18).bind fun v649 => if v649 = 0 then ((oR M647 l0 9 58 29).bind fun v652 => (oR M647 l0 9 58 29).bind fun v654 => (aI M647 v654 (2 * r409)).bind fun v656 => if v656 = 0 then ((sI M647 v652 (2 * r409) r554).bind fun M659 => (oI M659 l0 9 58 25).bind fun v661 => (pI M659 l0 9 58 25 (v661 + 1)).bind fun M663 => some M663) else ((sI M647 v652 ((2 * r409) + 1) r554).bind fun M665 => (oI M665 l0 9 58 25).bind fun v667 => (pI M665 l0 9 58 25 (v667 + 1)).bind fun M669 => some M669)) else (some M647)) else none)) else none) else none) else none)) else (bif zac M410 l0 9 58 then (b2 (f_X9_letterNow l0 M410) fun r675 M676 => (oI M676 l0 9 58 17).bind fun v678 => bif zac M676 l0 9 58 then (b2 (f_X9_number l0 1 255 M676) fun r680 M681 => (oI M681 l0 9 58 18).bind fun v683 => if v683 = 0 then ((oI M681 l0 9 58 22).bind fun v686 => if r680 >>> (v686 &&& 31) = 0 then ((f_X9_has r680 r409 M681).bind fun r689 => if r689 = 0 then (bif zac M681 l0 9 58 then ((f_X9_end l0 M681).bind fun M692 => (oI M692 l0 9 58 18).bind fun v694 => if v694 = 0 then ((oR M692 l0 9 58 29).bind fun v697 => (oR M692 l0 9 58 29).bind fun v699 => (aI M692 v699 (2 * r409)).bind fun v701 => if v701 = 0 then ((sI M692 v697 (2 * r409) r680).bind fun M704 => (oI M704 l0 9 58 25).bind fun v706 => (pI M704 l0 9 58 25 (v706 + 1)).bind fun M708 => some M708) else ((sI M692 v697 ((2 * r409) + 1) r680).bind fun M710 => (oI M710 l0 9 58 25).bind fun v712 => (pI M710 l0 9 58 25 (v712 + 1)).bind fun M714 => some M714)) else (some M692)) else none) else (bif zac M681 l0 9 58 then ((f_X9_bad l0 2 v678 M681).bind fun M717 => bif zac M717 l0 9 58 then ((f_X9_end l0 M717).bind fun M719 => (oI M719 l0 9 58 18).bind fun v721 => if v721 = 0 then ((oR M719 l0 9 58 29).bind fun v724 => (oR M719 l0 9 58 29).bind fun v726 => (aI M719 v726 (2 * r409)).bind fun v728 => if v728 = 0 then ((sI M719 v724 (2 * r409) r680).bind fun M731 => (oI M731 l0 9 58 25).bind fun v733 => (pI M731 l0 9 58 25 (v733 + 1)).bind fun M735 => some M735) else ((sI M719 v724 ((2 * r409) + 1) r680).bind fun M737 => (oI M737 l0 9 58 25).bind fun v739 => (pI M737 l0 9 58 25 (v739 + 1)).bind fun M741 => some M741)) else (some M719)) else none) else none)) else (bif zac M681 l0 9 58 then ((f_X9_bad l0 2 v678 M681).bind fun M745 => bif zac M745 l0 9 58 then ((f_X9_end l0 M745).bind fun M747 => (oI M747 l0 9 58 18).bind fun v749 => if v749 = 0 then ((oR M747 l0 9 58 29).bind fun v752 => (oR M747 l0 9 58 29).bind fun v754 => (aI M747 v754 (2 * r409)).bind fun v756 => if v756 = 0 then ((sI M747 v752 (2 * r409) r680).bind fun M759 => (oI M759 l0 9 58 25).bind fun v761 => (pI M759 l0 9 58 25 (v761 + 1)).bind fun M763 => some M763) else ((sI M747 v752 ((2 * r409) + 1) r680).bind fun M765 => (oI M765 l0 9 58 25).bind fun v767 => (pI M765 l0 9 58 25 (v767 + 1)).bind fun M769 => some M769)) else (some M747)) else none) else none)) else (bif zac M681 l0 9 58 then ((f_X9_end l0 M681).bind fun M773 => (oI M773 l0 9 58 18).bind fun v775 => if v775 = 0 then ((oR M773 l0 9 58 29).bind fun v778 => (oR M773 l0 9 58 29).bind fun v780 => (aI M773 v780 (2 * r409)).bind fun v782 => if v782 = 0 then ((sI M773 v778 (2 * r409) r680).bind fun M785 => (oI M785 l0 9 58 25).bind fun v787 => (pI M785 l0 9 58 25 (v787 + 1)).bind fun M789 => some M789) else ((sI M773 v778 ((2 * r409) + 1) r680).bind fun M791 => (oI M791 l0 9 58 25).bind fun v793 => (pI M791 l0 9 58 25 (v793 + 1)).bind fun M795 => some M795)) else (some M773)) else none)) else none) else none)) else none)) else none
set_option maxRecDepth 100000 in
set_option maxHeartbeats 2000000 in
theorem E_X9_readWay {G : zG} {d : Nat} {l0 : Nat} {M MR : zM} (h : f_X9_readWay l0 M = some MR) : Ex G (d + 3) yX9_readWay cX9_readWay 5 none 0 (zent0 [.ref l0] 5) [] M (none, MR) := by
  unfold f_X9_readWay at h
  obtain ⟨zz0, h⟩ := bt h
  have hl0 := bz zz0
  show Ex _ _ _ _ _ _ 0 [.ref l0, .null, .null, .null, .null] [] _ _
  refine x_aload_n (pc := 0) dX9_readWay_0 rfl rfl hl0 ?_
  obtain ⟨v1, e2, h⟩ := ob h
  refine y_getI (pc := 1) dX9_readWay_1 zf_X9_172 e2 (by decide) ?_
  refine x_bipush (pc := 4) dX9_readWay_4 (v := 10) (by decide) ?_
  refine x_icmp_ne (pc := 6) dX9_readWay_6 (t := 18) rfl (fun c3 => ?_) (fun c3 => ?_)
  · rw [if_neg c3] at h
    refine x_aload_n (pc := 18) dX9_readWay_18 rfl rfl hl0 ?_
    refine x_dup (pc := 19) dX9_readWay_19 rv_cr ?_
    obtain ⟨v405, e406, h⟩ := ob h
    refine y_getI (pc := 20) dX9_readWay_20 zf_X9_144 e406 (by decide) ?_
    refine x_iconst (pc := 23) dX9_readWay_23 (v := 1) rfl ?_
    refine x_iadd (pc := 24) dX9_readWay_24 ?_
    obtain ⟨M407, e408, h⟩ := ob h
    refine y_putI (pc := 25) dX9_readWay_25 zf_X9_144 e408 ?_
    refine x_aload_n (pc := 28) dX9_readWay_28 rfl rfl hl0 ?_
    obtain ⟨g800, h⟩ := bt h
    obtain ⟨r409, M410, e411, h⟩ := ob2 h
    refine x_callV (av := []) (st := []) (pc := 29) dX9_readWay_29 (E_X9_wordTold (d := d) e411) rfl (Nat.le_of_ble_eq_true rfl) zc_X9_wordTold rfl zm_X9_175 zi_X9_wordTold zs_X9_wordTold (zac_ok g800) (by decide) rfl rfl (zst_ok rfl (Nat.le_of_ble_eq_true rfl)) rfl ?_
    refine x_istore_n (pc := 32) dX9_readWay_32 rfl (by decide) rfl ?_
    refine x_aload_n (pc := 33) dX9_readWay_33 rfl rfl hl0 ?_
    obtain ⟨v412, e413, h⟩ := ob h
    refine y_getI (pc := 34) dX9_readWay_34 zf_X9_138 e413 (by decide) ?_
    refine x_if_ne (pc := 37) dX9_readWay_37 (t := 62) rfl (fun c414 => ?_) (fun c414 => ?_)
    · rw [if_neg c414] at h
      refine x_aload_n (pc := 62) dX9_readWay_62 rfl rfl hl0 ?_
      obtain ⟨g799, h⟩ := bt h
      obtain ⟨r675, M676, e677, h⟩ := ob2 h
      refine x_callV (av := []) (st := []) (pc := 63) dX9_readWay_63 (E_X9_letterNow (d := d + 2) e677) rfl (Nat.le_of_ble_eq_true rfl) zc_X9_letterNow rfl zm_X9_147 zi_X9_letterNow zs_X9_letterNow (zac_ok g799) (by decide) rfl rfl (zst_ok rfl (Nat.le_of_ble_eq_true rfl)) rfl ?_
      refine x_istore_n (pc := 66) dX9_readWay_66 rfl (by decide) rfl ?_
      refine x_aload_n (pc := 67) dX9_readWay_67 rfl rfl hl0 ?_
      obtain ⟨v678, e679, h⟩ := ob h
      refine y_getI (pc := 68) dX9_readWay_68 zf_X9_144 e679 (by decide) ?_
      refine x_istore_n (pc := 71) dX9_readWay_71 rfl (by decide) rfl ?_
      refine x_aload_n (pc := 72) dX9_readWay_72 rfl rfl hl0 ?_
      refine x_iconst (pc := 73) dX9_readWay_73 (v := 1) rfl ?_
      refine x_sipush (pc := 74) dX9_readWay_74 (v := 255) (by decide) ?_
      obtain ⟨g798, h⟩ := bt h
      obtain ⟨r680, M681, e682, h⟩ := ob2 h
      refine x_callV (av := [.int 1, .int 255]) (st := []) (pc := 77) dX9_readWay_77 (E_X9_number (d := d + 1) e682) rfl (Nat.le_of_ble_eq_true rfl) zc_X9_number rfl zm_X9_165 zi_X9_number zs_X9_number (zac_ok g798) (by decide) rfl rfl (zst_ok rfl (Nat.le_of_ble_eq_true rfl)) rfl ?_
      refine x_istore (pc := 80) dX9_readWay_80 (by decide) rfl ?_
      refine x_aload_n (pc := 82) dX9_readWay_82 rfl rfl hl0 ?_
      obtain ⟨v683, e684, h⟩ := ob h
      refine y_getI (pc := 83) dX9_readWay_83 zf_X9_138 e684 (by decide) ?_
      refine x_if_ne (pc := 86) dX9_readWay_86 (t := 114) rfl (fun c685 => ?_) (fun c685 => ?_)
      · rw [if_neg c685] at h
        refine x_aload_n (pc := 114) dX9_readWay_114 rfl rfl hl0 ?_
        obtain ⟨g797, h⟩ := bt h
        obtain ⟨M773, e774, h⟩ := ob h
        refine x_callV (av := []) (st := []) (pc := 115) dX9_readWay_115 (E_X9_end (d := d + 1) e774) rfl (Nat.le_of_ble_eq_true rfl) zc_X9_end rfl zm_X9_169 zi_X9_end zs_X9_end (zac_ok g797) (by decide) rfl rfl (zst_ok rfl (Nat.le_of_ble_eq_true rfl)) rfl ?_
        refine x_aload_n (pc := 118) dX9_readWay_118 rfl rfl hl0 ?_
        obtain ⟨v775, e776, h⟩ := ob h
        refine y_getI (pc := 119) dX9_readWay_119 zf_X9_138 e776 (by decide) ?_
        refine x_if_ne (pc := 122) dX9_readWay_122 (t := 164) rfl (fun c777 => ?_) (fun c777 => ?_)
        · rw [if_neg c777] at h
          obtain rfl := s1 h
          exact x_vret (pc := 164) dX9_readWay_164 rfl
        · rw [if_pos c777] at h
          refine x_aload_n (pc := 125) dX9_readWay_125 rfl rfl hl0 ?_
          obtain ⟨v778, e779, h⟩ := ob h
          refine y_getR (pc := 126) dX9_readWay_126 zf_X9_54 e779 ?_
          refine x_aload_n (pc := 129) dX9_readWay_129 rfl rfl hl0 ?_
          obtain ⟨v780, e781, h⟩ := ob h
          refine y_getR (pc := 130) dX9_readWay_130 zf_X9_54 e781 ?_
          refine x_iconst (pc := 133) dX9_readWay_133 (v := 2) rfl ?_
          refine x_iload_n (pc := 134) dX9_readWay_134 rfl rfl ?_
          refine x_imul (pc := 135) dX9_readWay_135 ?_
          obtain ⟨v782, e783, h⟩ := ob h
          refine y_iald (pc := 136) dX9_readWay_136 e783 ?_
          refine x_if_ne (pc := 137) dX9_readWay_137 (t := 146) rfl (fun c784 => ?_) (fun c784 => ?_)
          · rw [if_neg c784] at h
            refine x_iconst (pc := 146) dX9_readWay_146 (v := 2) rfl ?_
            refine x_iload_n (pc := 147) dX9_readWay_147 rfl rfl ?_
            refine x_imul (pc := 148) dX9_readWay_148 ?_
            refine x_iconst (pc := 149) dX9_readWay_149 (v := 1) rfl ?_
            refine x_iadd (pc := 150) dX9_readWay_150 ?_
            refine x_iload (pc := 151) dX9_readWay_151 rfl ?_
            obtain ⟨M791, e792, h⟩ := ob h
            refine y_iast (pc := 153) dX9_readWay_153 e792 ?_
            refine x_aload_n (pc := 154) dX9_readWay_154 rfl rfl hl0 ?_
            refine x_dup (pc := 155) dX9_readWay_155 rv_cr ?_
            obtain ⟨v793, e794, h⟩ := ob h
            refine y_getI (pc := 156) dX9_readWay_156 zf_X9_172 e794 (by decide) ?_
            refine x_iconst (pc := 159) dX9_readWay_159 (v := 1) rfl ?_
            refine x_iadd (pc := 160) dX9_readWay_160 ?_
            obtain ⟨M795, e796, h⟩ := ob h
            refine y_putI (pc := 161) dX9_readWay_161 zf_X9_172 e796 ?_
            obtain rfl := s1 h
            exact x_vret (pc := 164) dX9_readWay_164 rfl
          · rw [if_pos c784] at h
            refine x_iconst (pc := 140) dX9_readWay_140 (v := 2) rfl ?_
            refine x_iload_n (pc := 141) dX9_readWay_141 rfl rfl ?_
            refine x_imul (pc := 142) dX9_readWay_142 ?_
            refine x_goto (pc := 143) dX9_readWay_143 (t := 151) rfl ?_
            refine x_iload (pc := 151) dX9_readWay_151 rfl ?_
            obtain ⟨M785, e786, h⟩ := ob h
            refine y_iast (pc := 153) dX9_readWay_153 e786 ?_
            refine x_aload_n (pc := 154) dX9_readWay_154 rfl rfl hl0 ?_
            refine x_dup (pc := 155) dX9_readWay_155 rv_cr ?_
            obtain ⟨v787, e788, h⟩ := ob h
            refine y_getI (pc := 156) dX9_readWay_156 zf_X9_172 e788 (by decide) ?_
            refine x_iconst (pc := 159) dX9_readWay_159 (v := 1) rfl ?_
            refine x_iadd (pc := 160) dX9_readWay_160 ?_
            obtain ⟨M789, e790, h⟩ := ob h
            refine y_putI (pc := 161) dX9_readWay_161 zf_X9_172 e790 ?_
            obtain rfl := s1 h
            exact x_vret (pc := 164) dX9_readWay_164 rfl
      · rw [if_pos c685] at h
        refine x_iload (pc := 89) dX9_readWay_89 rfl ?_
        refine x_aload_n (pc := 91) dX9_readWay_91 rfl rfl hl0 ?_
        obtain ⟨v686, e687, h⟩ := ob h
        refine y_getI (pc := 92) dX9_readWay_92 zf_X9_162 e687 (by decide) ?_
        refine x_ishr (pc := 95) dX9_readWay_95 ?_
        refine x_if_ne (pc := 96) dX9_readWay_96 (t := 108) rfl (fun c688 => ?_) (fun c688 => ?_)
        · rw [if_neg c688] at h
          refine x_aload_n (pc := 108) dX9_readWay_108 rfl rfl hl0 ?_
          refine x_iconst (pc := 109) dX9_readWay_109 (v := 2) rfl ?_
          refine x_iload_n (pc := 110) dX9_readWay_110 rfl rfl ?_
          obtain ⟨g772, h⟩ := bt h
          obtain ⟨M745, e746, h⟩ := ob h
          refine x_callV (av := [.int 2, .int v678]) (st := []) (pc := 111) dX9_readWay_111 (E_X9_bad (d := d + 2) e746) rfl (Nat.le_of_ble_eq_true rfl) zc_X9_bad rfl zm_X9_155 zi_X9_bad zs_X9_bad (zac_ok g772) (by decide) rfl rfl (zst_ok rfl (Nat.le_of_ble_eq_true rfl)) rfl ?_
          refine x_aload_n (pc := 114) dX9_readWay_114 rfl rfl hl0 ?_
          obtain ⟨g771, h⟩ := bt h
          obtain ⟨M747, e748, h⟩ := ob h
          refine x_callV (av := []) (st := []) (pc := 115) dX9_readWay_115 (E_X9_end (d := d + 1) e748) rfl (Nat.le_of_ble_eq_true rfl) zc_X9_end rfl zm_X9_169 zi_X9_end zs_X9_end (zac_ok g771) (by decide) rfl rfl (zst_ok rfl (Nat.le_of_ble_eq_true rfl)) rfl ?_
          refine x_aload_n (pc := 118) dX9_readWay_118 rfl rfl hl0 ?_
          obtain ⟨v749, e750, h⟩ := ob h
          refine y_getI (pc := 119) dX9_readWay_119 zf_X9_138 e750 (by decide) ?_
          refine x_if_ne (pc := 122) dX9_readWay_122 (t := 164) rfl (fun c751 => ?_) (fun c751 => ?_)
          · rw [if_neg c751] at h
            obtain rfl := s1 h
            exact x_vret (pc := 164) dX9_readWay_164 rfl
          · rw [if_pos c751] at h
            refine x_aload_n (pc := 125) dX9_readWay_125 rfl rfl hl0 ?_
            obtain ⟨v752, e753, h⟩ := ob h
            refine y_getR (pc := 126) dX9_readWay_126 zf_X9_54 e753 ?_
            refine x_aload_n (pc := 129) dX9_readWay_129 rfl rfl hl0 ?_
            obtain ⟨v754, e755, h⟩ := ob h
            refine y_getR (pc := 130) dX9_readWay_130 zf_X9_54 e755 ?_
            refine x_iconst (pc := 133) dX9_readWay_133 (v := 2) rfl ?_
            refine x_iload_n (pc := 134) dX9_readWay_134 rfl rfl ?_
            refine x_imul (pc := 135) dX9_readWay_135 ?_
            obtain ⟨v756, e757, h⟩ := ob h
            refine y_iald (pc := 136) dX9_readWay_136 e757 ?_
            refine x_if_ne (pc := 137) dX9_readWay_137 (t := 146) rfl (fun c758 => ?_) (fun c758 => ?_)
            · rw [if_neg c758] at h
              refine x_iconst (pc := 146) dX9_readWay_146 (v := 2) rfl ?_
              refine x_iload_n (pc := 147) dX9_readWay_147 rfl rfl ?_
              refine x_imul (pc := 148) dX9_readWay_148 ?_
              refine x_iconst (pc := 149) dX9_readWay_149 (v := 1) rfl ?_
              refine x_iadd (pc := 150) dX9_readWay_150 ?_
              refine x_iload (pc := 151) dX9_readWay_151 rfl ?_
              obtain ⟨M765, e766, h⟩ := ob h
              refine y_iast (pc := 153) dX9_readWay_153 e766 ?_
              refine x_aload_n (pc := 154) dX9_readWay_154 rfl rfl hl0 ?_
              refine x_dup (pc := 155) dX9_readWay_155 rv_cr ?_
              obtain ⟨v767, e768, h⟩ := ob h
              refine y_getI (pc := 156) dX9_readWay_156 zf_X9_172 e768 (by decide) ?_
              refine x_iconst (pc := 159) dX9_readWay_159 (v := 1) rfl ?_
              refine x_iadd (pc := 160) dX9_readWay_160 ?_
              obtain ⟨M769, e770, h⟩ := ob h
              refine y_putI (pc := 161) dX9_readWay_161 zf_X9_172 e770 ?_
              obtain rfl := s1 h
              exact x_vret (pc := 164) dX9_readWay_164 rfl
            · rw [if_pos c758] at h
              refine x_iconst (pc := 140) dX9_readWay_140 (v := 2) rfl ?_
              refine x_iload_n (pc := 141) dX9_readWay_141 rfl rfl ?_
              refine x_imul (pc := 142) dX9_readWay_142 ?_
              refine x_goto (pc := 143) dX9_readWay_143 (t := 151) rfl ?_
              refine x_iload (pc := 151) dX9_readWay_151 rfl ?_
              obtain ⟨M759, e760, h⟩ := ob h
              refine y_iast (pc := 153) dX9_readWay_153 e760 ?_
              refine x_aload_n (pc := 154) dX9_readWay_154 rfl rfl hl0 ?_
              refine x_dup (pc := 155) dX9_readWay_155 rv_cr ?_
              obtain ⟨v761, e762, h⟩ := ob h
              refine y_getI (pc := 156) dX9_readWay_156 zf_X9_172 e762 (by decide) ?_
              refine x_iconst (pc := 159) dX9_readWay_159 (v := 1) rfl ?_
              refine x_iadd (pc := 160) dX9_readWay_160 ?_
              obtain ⟨M763, e764, h⟩ := ob h
              refine y_putI (pc := 161) dX9_readWay_161 zf_X9_172 e764 ?_
              obtain rfl := s1 h
              exact x_vret (pc := 164) dX9_readWay_164 rfl
        · rw [if_pos c688] at h
          refine x_iload (pc := 99) dX9_readWay_99 rfl ?_
          refine x_iload_n (pc := 101) dX9_readWay_101 rfl rfl ?_
          obtain ⟨r689, e690, h⟩ := ob h
          refine x_callS (av := [.int r680, .int r409]) (st := []) (pc := 102) dX9_readWay_102 (E_X9_has (d := d + 2) e690) rfl (Nat.le_of_ble_eq_true rfl) zc_X9_has rfl zm_X9_178 zs_X9_has rfl (zst_ok rfl (Nat.le_of_ble_eq_true rfl)) rfl ?_
          refine x_if_eq (pc := 105) dX9_readWay_105 (t := 114) rfl (fun c691 => ?_) (fun c691 => ?_)
          · rw [if_pos c691] at h
            refine x_aload_n (pc := 114) dX9_readWay_114 rfl rfl hl0 ?_
            obtain ⟨g716, h⟩ := bt h
            obtain ⟨M692, e693, h⟩ := ob h
            refine x_callV (av := []) (st := []) (pc := 115) dX9_readWay_115 (E_X9_end (d := d + 1) e693) rfl (Nat.le_of_ble_eq_true rfl) zc_X9_end rfl zm_X9_169 zi_X9_end zs_X9_end (zac_ok g716) (by decide) rfl rfl (zst_ok rfl (Nat.le_of_ble_eq_true rfl)) rfl ?_
            refine x_aload_n (pc := 118) dX9_readWay_118 rfl rfl hl0 ?_
            obtain ⟨v694, e695, h⟩ := ob h
            refine y_getI (pc := 119) dX9_readWay_119 zf_X9_138 e695 (by decide) ?_
            refine x_if_ne (pc := 122) dX9_readWay_122 (t := 164) rfl (fun c696 => ?_) (fun c696 => ?_)
            · rw [if_neg c696] at h
              obtain rfl := s1 h
              exact x_vret (pc := 164) dX9_readWay_164 rfl
            · rw [if_pos c696] at h
              refine x_aload_n (pc := 125) dX9_readWay_125 rfl rfl hl0 ?_
              obtain ⟨v697, e698, h⟩ := ob h
              refine y_getR (pc := 126) dX9_readWay_126 zf_X9_54 e698 ?_
              refine x_aload_n (pc := 129) dX9_readWay_129 rfl rfl hl0 ?_
              obtain ⟨v699, e700, h⟩ := ob h
              refine y_getR (pc := 130) dX9_readWay_130 zf_X9_54 e700 ?_
              refine x_iconst (pc := 133) dX9_readWay_133 (v := 2) rfl ?_
              refine x_iload_n (pc := 134) dX9_readWay_134 rfl rfl ?_
              refine x_imul (pc := 135) dX9_readWay_135 ?_
              obtain ⟨v701, e702, h⟩ := ob h
              refine y_iald (pc := 136) dX9_readWay_136 e702 ?_
              refine x_if_ne (pc := 137) dX9_readWay_137 (t := 146) rfl (fun c703 => ?_) (fun c703 => ?_)
              · rw [if_neg c703] at h
                refine x_iconst (pc := 146) dX9_readWay_146 (v := 2) rfl ?_
                refine x_iload_n (pc := 147) dX9_readWay_147 rfl rfl ?_
                refine x_imul (pc := 148) dX9_readWay_148 ?_
                refine x_iconst (pc := 149) dX9_readWay_149 (v := 1) rfl ?_
                refine x_iadd (pc := 150) dX9_readWay_150 ?_
                refine x_iload (pc := 151) dX9_readWay_151 rfl ?_
                obtain ⟨M710, e711, h⟩ := ob h
                refine y_iast (pc := 153) dX9_readWay_153 e711 ?_
                refine x_aload_n (pc := 154) dX9_readWay_154 rfl rfl hl0 ?_
                refine x_dup (pc := 155) dX9_readWay_155 rv_cr ?_
                obtain ⟨v712, e713, h⟩ := ob h
                refine y_getI (pc := 156) dX9_readWay_156 zf_X9_172 e713 (by decide) ?_
                refine x_iconst (pc := 159) dX9_readWay_159 (v := 1) rfl ?_
                refine x_iadd (pc := 160) dX9_readWay_160 ?_
                obtain ⟨M714, e715, h⟩ := ob h
                refine y_putI (pc := 161) dX9_readWay_161 zf_X9_172 e715 ?_
                obtain rfl := s1 h
                exact x_vret (pc := 164) dX9_readWay_164 rfl
              · rw [if_pos c703] at h
                refine x_iconst (pc := 140) dX9_readWay_140 (v := 2) rfl ?_
                refine x_iload_n (pc := 141) dX9_readWay_141 rfl rfl ?_
                refine x_imul (pc := 142) dX9_readWay_142 ?_
                refine x_goto (pc := 143) dX9_readWay_143 (t := 151) rfl ?_
                refine x_iload (pc := 151) dX9_readWay_151 rfl ?_
                obtain ⟨M704, e705, h⟩ := ob h
                refine y_iast (pc := 153) dX9_readWay_153 e705 ?_
                refine x_aload_n (pc := 154) dX9_readWay_154 rfl rfl hl0 ?_
                refine x_dup (pc := 155) dX9_readWay_155 rv_cr ?_
                obtain ⟨v706, e707, h⟩ := ob h
                refine y_getI (pc := 156) dX9_readWay_156 zf_X9_172 e707 (by decide) ?_
                refine x_iconst (pc := 159) dX9_readWay_159 (v := 1) rfl ?_
                refine x_iadd (pc := 160) dX9_readWay_160 ?_
                obtain ⟨M708, e709, h⟩ := ob h
                refine y_putI (pc := 161) dX9_readWay_161 zf_X9_172 e709 ?_
                obtain rfl := s1 h
                exact x_vret (pc := 164) dX9_readWay_164 rfl
          · rw [if_neg c691] at h
            refine x_aload_n (pc := 108) dX9_readWay_108 rfl rfl hl0 ?_
            refine x_iconst (pc := 109) dX9_readWay_109 (v := 2) rfl ?_
            refine x_iload_n (pc := 110) dX9_readWay_110 rfl rfl ?_
            obtain ⟨g744, h⟩ := bt h
            obtain ⟨M717, e718, h⟩ := ob h
            refine x_callV (av := [.int 2, .int v678]) (st := []) (pc := 111) dX9_readWay_111 (E_X9_bad (d := d + 2) e718) rfl (Nat.le_of_ble_eq_true rfl) zc_X9_bad rfl zm_X9_155 zi_X9_bad zs_X9_bad (zac_ok g744) (by decide) rfl rfl (zst_ok rfl (Nat.le_of_ble_eq_true rfl)) rfl ?_
            refine x_aload_n (pc := 114) dX9_readWay_114 rfl rfl hl0 ?_
            obtain ⟨g743, h⟩ := bt h
            obtain ⟨M719, e720, h⟩ := ob h
            refine x_callV (av := []) (st := []) (pc := 115) dX9_readWay_115 (E_X9_end (d := d + 1) e720) rfl (Nat.le_of_ble_eq_true rfl) zc_X9_end rfl zm_X9_169 zi_X9_end zs_X9_end (zac_ok g743) (by decide) rfl rfl (zst_ok rfl (Nat.le_of_ble_eq_true rfl)) rfl ?_
            refine x_aload_n (pc := 118) dX9_readWay_118 rfl rfl hl0 ?_
            obtain ⟨v721, e722, h⟩ := ob h
            refine y_getI (pc := 119) dX9_readWay_119 zf_X9_138 e722 (by decide) ?_
            refine x_if_ne (pc := 122) dX9_readWay_122 (t := 164) rfl (fun c723 => ?_) (fun c723 => ?_)
            · rw [if_neg c723] at h
              obtain rfl := s1 h
              exact x_vret (pc := 164) dX9_readWay_164 rfl
            · rw [if_pos c723] at h
              refine x_aload_n (pc := 125) dX9_readWay_125 rfl rfl hl0 ?_
              obtain ⟨v724, e725, h⟩ := ob h
              refine y_getR (pc := 126) dX9_readWay_126 zf_X9_54 e725 ?_
              refine x_aload_n (pc := 129) dX9_readWay_129 rfl rfl hl0 ?_
              obtain ⟨v726, e727, h⟩ := ob h
              refine y_getR (pc := 130) dX9_readWay_130 zf_X9_54 e727 ?_
              refine x_iconst (pc := 133) dX9_readWay_133 (v := 2) rfl ?_
              refine x_iload_n (pc := 134) dX9_readWay_134 rfl rfl ?_
              refine x_imul (pc := 135) dX9_readWay_135 ?_
              obtain ⟨v728, e729, h⟩ := ob h
              refine y_iald (pc := 136) dX9_readWay_136 e729 ?_
              refine x_if_ne (pc := 137) dX9_readWay_137 (t := 146) rfl (fun c730 => ?_) (fun c730 => ?_)
              · rw [if_neg c730] at h
                refine x_iconst (pc := 146) dX9_readWay_146 (v := 2) rfl ?_
                refine x_iload_n (pc := 147) dX9_readWay_147 rfl rfl ?_
                refine x_imul (pc := 148) dX9_readWay_148 ?_
                refine x_iconst (pc := 149) dX9_readWay_149 (v := 1) rfl ?_
                refine x_iadd (pc := 150) dX9_readWay_150 ?_
                refine x_iload (pc := 151) dX9_readWay_151 rfl ?_
                obtain ⟨M737, e738, h⟩ := ob h
                refine y_iast (pc := 153) dX9_readWay_153 e738 ?_
                refine x_aload_n (pc := 154) dX9_readWay_154 rfl rfl hl0 ?_
                refine x_dup (pc := 155) dX9_readWay_155 rv_cr ?_
                obtain ⟨v739, e740, h⟩ := ob h
                refine y_getI (pc := 156) dX9_readWay_156 zf_X9_172 e740 (by decide) ?_
                refine x_iconst (pc := 159) dX9_readWay_159 (v := 1) rfl ?_
                refine x_iadd (pc := 160) dX9_readWay_160 ?_
                obtain ⟨M741, e742, h⟩ := ob h
                refine y_putI (pc := 161) dX9_readWay_161 zf_X9_172 e742 ?_
                obtain rfl := s1 h
                exact x_vret (pc := 164) dX9_readWay_164 rfl
              · rw [if_pos c730] at h
                refine x_iconst (pc := 140) dX9_readWay_140 (v := 2) rfl ?_
                refine x_iload_n (pc := 141) dX9_readWay_141 rfl rfl ?_
                refine x_imul (pc := 142) dX9_readWay_142 ?_
                refine x_goto (pc := 143) dX9_readWay_143 (t := 151) rfl ?_
                refine x_iload (pc := 151) dX9_readWay_151 rfl ?_
                obtain ⟨M731, e732, h⟩ := ob h
                refine y_iast (pc := 153) dX9_readWay_153 e732 ?_
                refine x_aload_n (pc := 154) dX9_readWay_154 rfl rfl hl0 ?_
                refine x_dup (pc := 155) dX9_readWay_155 rv_cr ?_
                obtain ⟨v733, e734, h⟩ := ob h
                refine y_getI (pc := 156) dX9_readWay_156 zf_X9_172 e734 (by decide) ?_
                refine x_iconst (pc := 159) dX9_readWay_159 (v := 1) rfl ?_
                refine x_iadd (pc := 160) dX9_readWay_160 ?_
                obtain ⟨M735, e736, h⟩ := ob h
                refine y_putI (pc := 161) dX9_readWay_161 zf_X9_172 e736 ?_
                obtain rfl := s1 h
                exact x_vret (pc := 164) dX9_readWay_164 rfl
    · rw [if_pos c414] at h
      refine x_aload_n (pc := 40) dX9_readWay_40 rfl rfl hl0 ?_
      obtain ⟨v415, e416, h⟩ := ob h
      refine y_getR (pc := 41) dX9_readWay_41 zf_X9_54 e416 ?_
      refine x_iconst (pc := 44) dX9_readWay_44 (v := 2) rfl ?_
      refine x_iload_n (pc := 45) dX9_readWay_45 rfl rfl ?_
      refine x_imul (pc := 46) dX9_readWay_46 ?_
      refine x_iconst (pc := 47) dX9_readWay_47 (v := 1) rfl ?_
      refine x_iadd (pc := 48) dX9_readWay_48 ?_
      obtain ⟨v417, e418, h⟩ := ob h
      refine y_iald (pc := 49) dX9_readWay_49 e418 ?_
      refine x_if_eq (pc := 50) dX9_readWay_50 (t := 62) rfl (fun c419 => ?_) (fun c419 => ?_)
      · rw [if_pos c419] at h
        refine x_aload_n (pc := 62) dX9_readWay_62 rfl rfl hl0 ?_
        obtain ⟨g544, h⟩ := bt h
        obtain ⟨r420, M421, e422, h⟩ := ob2 h
        refine x_callV (av := []) (st := []) (pc := 63) dX9_readWay_63 (E_X9_letterNow (d := d + 2) e422) rfl (Nat.le_of_ble_eq_true rfl) zc_X9_letterNow rfl zm_X9_147 zi_X9_letterNow zs_X9_letterNow (zac_ok g544) (by decide) rfl rfl (zst_ok rfl (Nat.le_of_ble_eq_true rfl)) rfl ?_
        refine x_istore_n (pc := 66) dX9_readWay_66 rfl (by decide) rfl ?_
        refine x_aload_n (pc := 67) dX9_readWay_67 rfl rfl hl0 ?_
        obtain ⟨v423, e424, h⟩ := ob h
        refine y_getI (pc := 68) dX9_readWay_68 zf_X9_144 e424 (by decide) ?_
        refine x_istore_n (pc := 71) dX9_readWay_71 rfl (by decide) rfl ?_
        refine x_aload_n (pc := 72) dX9_readWay_72 rfl rfl hl0 ?_
        refine x_iconst (pc := 73) dX9_readWay_73 (v := 1) rfl ?_
        refine x_sipush (pc := 74) dX9_readWay_74 (v := 255) (by decide) ?_
        obtain ⟨g543, h⟩ := bt h
        obtain ⟨r425, M426, e427, h⟩ := ob2 h
        refine x_callV (av := [.int 1, .int 255]) (st := []) (pc := 77) dX9_readWay_77 (E_X9_number (d := d + 1) e427) rfl (Nat.le_of_ble_eq_true rfl) zc_X9_number rfl zm_X9_165 zi_X9_number zs_X9_number (zac_ok g543) (by decide) rfl rfl (zst_ok rfl (Nat.le_of_ble_eq_true rfl)) rfl ?_
        refine x_istore (pc := 80) dX9_readWay_80 (by decide) rfl ?_
        refine x_aload_n (pc := 82) dX9_readWay_82 rfl rfl hl0 ?_
        obtain ⟨v428, e429, h⟩ := ob h
        refine y_getI (pc := 83) dX9_readWay_83 zf_X9_138 e429 (by decide) ?_
        refine x_if_ne (pc := 86) dX9_readWay_86 (t := 114) rfl (fun c430 => ?_) (fun c430 => ?_)
        · rw [if_neg c430] at h
          refine x_aload_n (pc := 114) dX9_readWay_114 rfl rfl hl0 ?_
          obtain ⟨g542, h⟩ := bt h
          obtain ⟨M518, e519, h⟩ := ob h
          refine x_callV (av := []) (st := []) (pc := 115) dX9_readWay_115 (E_X9_end (d := d + 1) e519) rfl (Nat.le_of_ble_eq_true rfl) zc_X9_end rfl zm_X9_169 zi_X9_end zs_X9_end (zac_ok g542) (by decide) rfl rfl (zst_ok rfl (Nat.le_of_ble_eq_true rfl)) rfl ?_
          refine x_aload_n (pc := 118) dX9_readWay_118 rfl rfl hl0 ?_
          obtain ⟨v520, e521, h⟩ := ob h
          refine y_getI (pc := 119) dX9_readWay_119 zf_X9_138 e521 (by decide) ?_
          refine x_if_ne (pc := 122) dX9_readWay_122 (t := 164) rfl (fun c522 => ?_) (fun c522 => ?_)
          · rw [if_neg c522] at h
            obtain rfl := s1 h
            exact x_vret (pc := 164) dX9_readWay_164 rfl
          · rw [if_pos c522] at h
            refine x_aload_n (pc := 125) dX9_readWay_125 rfl rfl hl0 ?_
            obtain ⟨v523, e524, h⟩ := ob h
            refine y_getR (pc := 126) dX9_readWay_126 zf_X9_54 e524 ?_
            refine x_aload_n (pc := 129) dX9_readWay_129 rfl rfl hl0 ?_
            obtain ⟨v525, e526, h⟩ := ob h
            refine y_getR (pc := 130) dX9_readWay_130 zf_X9_54 e526 ?_
            refine x_iconst (pc := 133) dX9_readWay_133 (v := 2) rfl ?_
            refine x_iload_n (pc := 134) dX9_readWay_134 rfl rfl ?_
            refine x_imul (pc := 135) dX9_readWay_135 ?_
            obtain ⟨v527, e528, h⟩ := ob h
            refine y_iald (pc := 136) dX9_readWay_136 e528 ?_
            refine x_if_ne (pc := 137) dX9_readWay_137 (t := 146) rfl (fun c529 => ?_) (fun c529 => ?_)
            · rw [if_neg c529] at h
              refine x_iconst (pc := 146) dX9_readWay_146 (v := 2) rfl ?_
              refine x_iload_n (pc := 147) dX9_readWay_147 rfl rfl ?_
              refine x_imul (pc := 148) dX9_readWay_148 ?_
              refine x_iconst (pc := 149) dX9_readWay_149 (v := 1) rfl ?_
              refine x_iadd (pc := 150) dX9_readWay_150 ?_
              refine x_iload (pc := 151) dX9_readWay_151 rfl ?_
              obtain ⟨M536, e537, h⟩ := ob h
              refine y_iast (pc := 153) dX9_readWay_153 e537 ?_
              refine x_aload_n (pc := 154) dX9_readWay_154 rfl rfl hl0 ?_
              refine x_dup (pc := 155) dX9_readWay_155 rv_cr ?_
              obtain ⟨v538, e539, h⟩ := ob h
              refine y_getI (pc := 156) dX9_readWay_156 zf_X9_172 e539 (by decide) ?_
              refine x_iconst (pc := 159) dX9_readWay_159 (v := 1) rfl ?_
              refine x_iadd (pc := 160) dX9_readWay_160 ?_
              obtain ⟨M540, e541, h⟩ := ob h
              refine y_putI (pc := 161) dX9_readWay_161 zf_X9_172 e541 ?_
              obtain rfl := s1 h
              exact x_vret (pc := 164) dX9_readWay_164 rfl
            · rw [if_pos c529] at h
              refine x_iconst (pc := 140) dX9_readWay_140 (v := 2) rfl ?_
              refine x_iload_n (pc := 141) dX9_readWay_141 rfl rfl ?_
              refine x_imul (pc := 142) dX9_readWay_142 ?_
              refine x_goto (pc := 143) dX9_readWay_143 (t := 151) rfl ?_
              refine x_iload (pc := 151) dX9_readWay_151 rfl ?_
              obtain ⟨M530, e531, h⟩ := ob h
              refine y_iast (pc := 153) dX9_readWay_153 e531 ?_
              refine x_aload_n (pc := 154) dX9_readWay_154 rfl rfl hl0 ?_
              refine x_dup (pc := 155) dX9_readWay_155 rv_cr ?_
              obtain ⟨v532, e533, h⟩ := ob h
              refine y_getI (pc := 156) dX9_readWay_156 zf_X9_172 e533 (by decide) ?_
              refine x_iconst (pc := 159) dX9_readWay_159 (v := 1) rfl ?_
              refine x_iadd (pc := 160) dX9_readWay_160 ?_
              obtain ⟨M534, e535, h⟩ := ob h
              refine y_putI (pc := 161) dX9_readWay_161 zf_X9_172 e535 ?_
              obtain rfl := s1 h
              exact x_vret (pc := 164) dX9_readWay_164 rfl
        · rw [if_pos c430] at h
          refine x_iload (pc := 89) dX9_readWay_89 rfl ?_
          refine x_aload_n (pc := 91) dX9_readWay_91 rfl rfl hl0 ?_
          obtain ⟨v431, e432, h⟩ := ob h
          refine y_getI (pc := 92) dX9_readWay_92 zf_X9_162 e432 (by decide) ?_
          refine x_ishr (pc := 95) dX9_readWay_95 ?_
          refine x_if_ne (pc := 96) dX9_readWay_96 (t := 108) rfl (fun c433 => ?_) (fun c433 => ?_)
          · rw [if_neg c433] at h
            refine x_aload_n (pc := 108) dX9_readWay_108 rfl rfl hl0 ?_
            refine x_iconst (pc := 109) dX9_readWay_109 (v := 2) rfl ?_
            refine x_iload_n (pc := 110) dX9_readWay_110 rfl rfl ?_
            obtain ⟨g517, h⟩ := bt h
            obtain ⟨M490, e491, h⟩ := ob h
            refine x_callV (av := [.int 2, .int v423]) (st := []) (pc := 111) dX9_readWay_111 (E_X9_bad (d := d + 2) e491) rfl (Nat.le_of_ble_eq_true rfl) zc_X9_bad rfl zm_X9_155 zi_X9_bad zs_X9_bad (zac_ok g517) (by decide) rfl rfl (zst_ok rfl (Nat.le_of_ble_eq_true rfl)) rfl ?_
            refine x_aload_n (pc := 114) dX9_readWay_114 rfl rfl hl0 ?_
            obtain ⟨g516, h⟩ := bt h
            obtain ⟨M492, e493, h⟩ := ob h
            refine x_callV (av := []) (st := []) (pc := 115) dX9_readWay_115 (E_X9_end (d := d + 1) e493) rfl (Nat.le_of_ble_eq_true rfl) zc_X9_end rfl zm_X9_169 zi_X9_end zs_X9_end (zac_ok g516) (by decide) rfl rfl (zst_ok rfl (Nat.le_of_ble_eq_true rfl)) rfl ?_
            refine x_aload_n (pc := 118) dX9_readWay_118 rfl rfl hl0 ?_
            obtain ⟨v494, e495, h⟩ := ob h
            refine y_getI (pc := 119) dX9_readWay_119 zf_X9_138 e495 (by decide) ?_
            refine x_if_ne (pc := 122) dX9_readWay_122 (t := 164) rfl (fun c496 => ?_) (fun c496 => ?_)
            · rw [if_neg c496] at h
              obtain rfl := s1 h
              exact x_vret (pc := 164) dX9_readWay_164 rfl
            · rw [if_pos c496] at h
              refine x_aload_n (pc := 125) dX9_readWay_125 rfl rfl hl0 ?_
              obtain ⟨v497, e498, h⟩ := ob h
              refine y_getR (pc := 126) dX9_readWay_126 zf_X9_54 e498 ?_
              refine x_aload_n (pc := 129) dX9_readWay_129 rfl rfl hl0 ?_
              obtain ⟨v499, e500, h⟩ := ob h
              refine y_getR (pc := 130) dX9_readWay_130 zf_X9_54 e500 ?_
              refine x_iconst (pc := 133) dX9_readWay_133 (v := 2) rfl ?_
              refine x_iload_n (pc := 134) dX9_readWay_134 rfl rfl ?_
              refine x_imul (pc := 135) dX9_readWay_135 ?_
              obtain ⟨v501, e502, h⟩ := ob h
              refine y_iald (pc := 136) dX9_readWay_136 e502 ?_
              refine x_if_ne (pc := 137) dX9_readWay_137 (t := 146) rfl (fun c503 => ?_) (fun c503 => ?_)
              · rw [if_neg c503] at h
                refine x_iconst (pc := 146) dX9_readWay_146 (v := 2) rfl ?_
                refine x_iload_n (pc := 147) dX9_readWay_147 rfl rfl ?_
                refine x_imul (pc := 148) dX9_readWay_148 ?_
                refine x_iconst (pc := 149) dX9_readWay_149 (v := 1) rfl ?_
                refine x_iadd (pc := 150) dX9_readWay_150 ?_
                refine x_iload (pc := 151) dX9_readWay_151 rfl ?_
                obtain ⟨M510, e511, h⟩ := ob h
                refine y_iast (pc := 153) dX9_readWay_153 e511 ?_
                refine x_aload_n (pc := 154) dX9_readWay_154 rfl rfl hl0 ?_
                refine x_dup (pc := 155) dX9_readWay_155 rv_cr ?_
                obtain ⟨v512, e513, h⟩ := ob h
                refine y_getI (pc := 156) dX9_readWay_156 zf_X9_172 e513 (by decide) ?_
                refine x_iconst (pc := 159) dX9_readWay_159 (v := 1) rfl ?_
                refine x_iadd (pc := 160) dX9_readWay_160 ?_
                obtain ⟨M514, e515, h⟩ := ob h
                refine y_putI (pc := 161) dX9_readWay_161 zf_X9_172 e515 ?_
                obtain rfl := s1 h
                exact x_vret (pc := 164) dX9_readWay_164 rfl
              · rw [if_pos c503] at h
                refine x_iconst (pc := 140) dX9_readWay_140 (v := 2) rfl ?_
                refine x_iload_n (pc := 141) dX9_readWay_141 rfl rfl ?_
                refine x_imul (pc := 142) dX9_readWay_142 ?_
                refine x_goto (pc := 143) dX9_readWay_143 (t := 151) rfl ?_
                refine x_iload (pc := 151) dX9_readWay_151 rfl ?_
                obtain ⟨M504, e505, h⟩ := ob h
                refine y_iast (pc := 153) dX9_readWay_153 e505 ?_
                refine x_aload_n (pc := 154) dX9_readWay_154 rfl rfl hl0 ?_
                refine x_dup (pc := 155) dX9_readWay_155 rv_cr ?_
                obtain ⟨v506, e507, h⟩ := ob h
                refine y_getI (pc := 156) dX9_readWay_156 zf_X9_172 e507 (by decide) ?_
                refine x_iconst (pc := 159) dX9_readWay_159 (v := 1) rfl ?_
                refine x_iadd (pc := 160) dX9_readWay_160 ?_
                obtain ⟨M508, e509, h⟩ := ob h
                refine y_putI (pc := 161) dX9_readWay_161 zf_X9_172 e509 ?_
                obtain rfl := s1 h
                exact x_vret (pc := 164) dX9_readWay_164 rfl
          · rw [if_pos c433] at h
            refine x_iload (pc := 99) dX9_readWay_99 rfl ?_
            refine x_iload_n (pc := 101) dX9_readWay_101 rfl rfl ?_
            obtain ⟨r434, e435, h⟩ := ob h
            refine x_callS (av := [.int r425, .int r409]) (st := []) (pc := 102) dX9_readWay_102 (E_X9_has (d := d + 2) e435) rfl (Nat.le_of_ble_eq_true rfl) zc_X9_has rfl zm_X9_178 zs_X9_has rfl (zst_ok rfl (Nat.le_of_ble_eq_true rfl)) rfl ?_
            refine x_if_eq (pc := 105) dX9_readWay_105 (t := 114) rfl (fun c436 => ?_) (fun c436 => ?_)
            · rw [if_pos c436] at h
              refine x_aload_n (pc := 114) dX9_readWay_114 rfl rfl hl0 ?_
              obtain ⟨g461, h⟩ := bt h
              obtain ⟨M437, e438, h⟩ := ob h
              refine x_callV (av := []) (st := []) (pc := 115) dX9_readWay_115 (E_X9_end (d := d + 1) e438) rfl (Nat.le_of_ble_eq_true rfl) zc_X9_end rfl zm_X9_169 zi_X9_end zs_X9_end (zac_ok g461) (by decide) rfl rfl (zst_ok rfl (Nat.le_of_ble_eq_true rfl)) rfl ?_
              refine x_aload_n (pc := 118) dX9_readWay_118 rfl rfl hl0 ?_
              obtain ⟨v439, e440, h⟩ := ob h
              refine y_getI (pc := 119) dX9_readWay_119 zf_X9_138 e440 (by decide) ?_
              refine x_if_ne (pc := 122) dX9_readWay_122 (t := 164) rfl (fun c441 => ?_) (fun c441 => ?_)
              · rw [if_neg c441] at h
                obtain rfl := s1 h
                exact x_vret (pc := 164) dX9_readWay_164 rfl
              · rw [if_pos c441] at h
                refine x_aload_n (pc := 125) dX9_readWay_125 rfl rfl hl0 ?_
                obtain ⟨v442, e443, h⟩ := ob h
                refine y_getR (pc := 126) dX9_readWay_126 zf_X9_54 e443 ?_
                refine x_aload_n (pc := 129) dX9_readWay_129 rfl rfl hl0 ?_
                obtain ⟨v444, e445, h⟩ := ob h
                refine y_getR (pc := 130) dX9_readWay_130 zf_X9_54 e445 ?_
                refine x_iconst (pc := 133) dX9_readWay_133 (v := 2) rfl ?_
                refine x_iload_n (pc := 134) dX9_readWay_134 rfl rfl ?_
                refine x_imul (pc := 135) dX9_readWay_135 ?_
                obtain ⟨v446, e447, h⟩ := ob h
                refine y_iald (pc := 136) dX9_readWay_136 e447 ?_
                refine x_if_ne (pc := 137) dX9_readWay_137 (t := 146) rfl (fun c448 => ?_) (fun c448 => ?_)
                · rw [if_neg c448] at h
                  refine x_iconst (pc := 146) dX9_readWay_146 (v := 2) rfl ?_
                  refine x_iload_n (pc := 147) dX9_readWay_147 rfl rfl ?_
                  refine x_imul (pc := 148) dX9_readWay_148 ?_
                  refine x_iconst (pc := 149) dX9_readWay_149 (v := 1) rfl ?_
                  refine x_iadd (pc := 150) dX9_readWay_150 ?_
                  refine x_iload (pc := 151) dX9_readWay_151 rfl ?_
                  obtain ⟨M455, e456, h⟩ := ob h
                  refine y_iast (pc := 153) dX9_readWay_153 e456 ?_
                  refine x_aload_n (pc := 154) dX9_readWay_154 rfl rfl hl0 ?_
                  refine x_dup (pc := 155) dX9_readWay_155 rv_cr ?_
                  obtain ⟨v457, e458, h⟩ := ob h
                  refine y_getI (pc := 156) dX9_readWay_156 zf_X9_172 e458 (by decide) ?_
                  refine x_iconst (pc := 159) dX9_readWay_159 (v := 1) rfl ?_
                  refine x_iadd (pc := 160) dX9_readWay_160 ?_
                  obtain ⟨M459, e460, h⟩ := ob h
                  refine y_putI (pc := 161) dX9_readWay_161 zf_X9_172 e460 ?_
                  obtain rfl := s1 h
                  exact x_vret (pc := 164) dX9_readWay_164 rfl
                · rw [if_pos c448] at h
                  refine x_iconst (pc := 140) dX9_readWay_140 (v := 2) rfl ?_
                  refine x_iload_n (pc := 141) dX9_readWay_141 rfl rfl ?_
                  refine x_imul (pc := 142) dX9_readWay_142 ?_
                  refine x_goto (pc := 143) dX9_readWay_143 (t := 151) rfl ?_
                  refine x_iload (pc := 151) dX9_readWay_151 rfl ?_
                  obtain ⟨M449, e450, h⟩ := ob h
                  refine y_iast (pc := 153) dX9_readWay_153 e450 ?_
                  refine x_aload_n (pc := 154) dX9_readWay_154 rfl rfl hl0 ?_
                  refine x_dup (pc := 155) dX9_readWay_155 rv_cr ?_
                  obtain ⟨v451, e452, h⟩ := ob h
                  refine y_getI (pc := 156) dX9_readWay_156 zf_X9_172 e452 (by decide) ?_
                  refine x_iconst (pc := 159) dX9_readWay_159 (v := 1) rfl ?_
                  refine x_iadd (pc := 160) dX9_readWay_160 ?_
                  obtain ⟨M453, e454, h⟩ := ob h
                  refine y_putI (pc := 161) dX9_readWay_161 zf_X9_172 e454 ?_
                  obtain rfl := s1 h
                  exact x_vret (pc := 164) dX9_readWay_164 rfl
            · rw [if_neg c436] at h
              refine x_aload_n (pc := 108) dX9_readWay_108 rfl rfl hl0 ?_
              refine x_iconst (pc := 109) dX9_readWay_109 (v := 2) rfl ?_
              refine x_iload_n (pc := 110) dX9_readWay_110 rfl rfl ?_
              obtain ⟨g489, h⟩ := bt h
              obtain ⟨M462, e463, h⟩ := ob h
              refine x_callV (av := [.int 2, .int v423]) (st := []) (pc := 111) dX9_readWay_111 (E_X9_bad (d := d + 2) e463) rfl (Nat.le_of_ble_eq_true rfl) zc_X9_bad rfl zm_X9_155 zi_X9_bad zs_X9_bad (zac_ok g489) (by decide) rfl rfl (zst_ok rfl (Nat.le_of_ble_eq_true rfl)) rfl ?_
              refine x_aload_n (pc := 114) dX9_readWay_114 rfl rfl hl0 ?_
              obtain ⟨g488, h⟩ := bt h
              obtain ⟨M464, e465, h⟩ := ob h
              refine x_callV (av := []) (st := []) (pc := 115) dX9_readWay_115 (E_X9_end (d := d + 1) e465) rfl (Nat.le_of_ble_eq_true rfl) zc_X9_end rfl zm_X9_169 zi_X9_end zs_X9_end (zac_ok g488) (by decide) rfl rfl (zst_ok rfl (Nat.le_of_ble_eq_true rfl)) rfl ?_
              refine x_aload_n (pc := 118) dX9_readWay_118 rfl rfl hl0 ?_
              obtain ⟨v466, e467, h⟩ := ob h
              refine y_getI (pc := 119) dX9_readWay_119 zf_X9_138 e467 (by decide) ?_
              refine x_if_ne (pc := 122) dX9_readWay_122 (t := 164) rfl (fun c468 => ?_) (fun c468 => ?_)
              · rw [if_neg c468] at h
                obtain rfl := s1 h
                exact x_vret (pc := 164) dX9_readWay_164 rfl
              · rw [if_pos c468] at h
                refine x_aload_n (pc := 125) dX9_readWay_125 rfl rfl hl0 ?_
                obtain ⟨v469, e470, h⟩ := ob h
                refine y_getR (pc := 126) dX9_readWay_126 zf_X9_54 e470 ?_
                refine x_aload_n (pc := 129) dX9_readWay_129 rfl rfl hl0 ?_
                obtain ⟨v471, e472, h⟩ := ob h
                refine y_getR (pc := 130) dX9_readWay_130 zf_X9_54 e472 ?_
                refine x_iconst (pc := 133) dX9_readWay_133 (v := 2) rfl ?_
                refine x_iload_n (pc := 134) dX9_readWay_134 rfl rfl ?_
                refine x_imul (pc := 135) dX9_readWay_135 ?_
                obtain ⟨v473, e474, h⟩ := ob h
                refine y_iald (pc := 136) dX9_readWay_136 e474 ?_
                refine x_if_ne (pc := 137) dX9_readWay_137 (t := 146) rfl (fun c475 => ?_) (fun c475 => ?_)
                · rw [if_neg c475] at h
                  refine x_iconst (pc := 146) dX9_readWay_146 (v := 2) rfl ?_
                  refine x_iload_n (pc := 147) dX9_readWay_147 rfl rfl ?_
                  refine x_imul (pc := 148) dX9_readWay_148 ?_
                  refine x_iconst (pc := 149) dX9_readWay_149 (v := 1) rfl ?_
                  refine x_iadd (pc := 150) dX9_readWay_150 ?_
                  refine x_iload (pc := 151) dX9_readWay_151 rfl ?_
                  obtain ⟨M482, e483, h⟩ := ob h
                  refine y_iast (pc := 153) dX9_readWay_153 e483 ?_
                  refine x_aload_n (pc := 154) dX9_readWay_154 rfl rfl hl0 ?_
                  refine x_dup (pc := 155) dX9_readWay_155 rv_cr ?_
                  obtain ⟨v484, e485, h⟩ := ob h
                  refine y_getI (pc := 156) dX9_readWay_156 zf_X9_172 e485 (by decide) ?_
                  refine x_iconst (pc := 159) dX9_readWay_159 (v := 1) rfl ?_
                  refine x_iadd (pc := 160) dX9_readWay_160 ?_
                  obtain ⟨M486, e487, h⟩ := ob h
                  refine y_putI (pc := 161) dX9_readWay_161 zf_X9_172 e487 ?_
                  obtain rfl := s1 h
                  exact x_vret (pc := 164) dX9_readWay_164 rfl
                · rw [if_pos c475] at h
                  refine x_iconst (pc := 140) dX9_readWay_140 (v := 2) rfl ?_
                  refine x_iload_n (pc := 141) dX9_readWay_141 rfl rfl ?_
                  refine x_imul (pc := 142) dX9_readWay_142 ?_
                  refine x_goto (pc := 143) dX9_readWay_143 (t := 151) rfl ?_
                  refine x_iload (pc := 151) dX9_readWay_151 rfl ?_
                  obtain ⟨M476, e477, h⟩ := ob h
                  refine y_iast (pc := 153) dX9_readWay_153 e477 ?_
                  refine x_aload_n (pc := 154) dX9_readWay_154 rfl rfl hl0 ?_
                  refine x_dup (pc := 155) dX9_readWay_155 rv_cr ?_
                  obtain ⟨v478, e479, h⟩ := ob h
                  refine y_getI (pc := 156) dX9_readWay_156 zf_X9_172 e479 (by decide) ?_
                  refine x_iconst (pc := 159) dX9_readWay_159 (v := 1) rfl ?_
                  refine x_iadd (pc := 160) dX9_readWay_160 ?_
                  obtain ⟨M480, e481, h⟩ := ob h
                  refine y_putI (pc := 161) dX9_readWay_161 zf_X9_172 e481 ?_
                  obtain rfl := s1 h
                  exact x_vret (pc := 164) dX9_readWay_164 rfl
      · rw [if_neg c419] at h
        refine x_aload_n (pc := 53) dX9_readWay_53 rfl rfl hl0 ?_
        refine x_iconst (pc := 54) dX9_readWay_54 (v := 4) rfl ?_
        refine x_aload_n (pc := 55) dX9_readWay_55 rfl rfl hl0 ?_
        obtain ⟨v545, e546, h⟩ := ob h
        refine y_getI (pc := 56) dX9_readWay_56 zf_X9_159 e546 (by decide) ?_
        obtain ⟨g674, h⟩ := bt h
        obtain ⟨M547, e548, h⟩ := ob h
        refine x_callV (av := [.int 4, .int v545]) (st := []) (pc := 59) dX9_readWay_59 (E_X9_bad (d := d + 2) e548) rfl (Nat.le_of_ble_eq_true rfl) zc_X9_bad rfl zm_X9_155 zi_X9_bad zs_X9_bad (zac_ok g674) (by decide) rfl rfl (zst_ok rfl (Nat.le_of_ble_eq_true rfl)) rfl ?_
        refine x_aload_n (pc := 62) dX9_readWay_62 rfl rfl hl0 ?_
        obtain ⟨g673, h⟩ := bt h
        obtain ⟨r549, M550, e551, h⟩ := ob2 h
        refine x_callV (av := []) (st := []) (pc := 63) dX9_readWay_63 (E_X9_letterNow (d := d + 2) e551) rfl (Nat.le_of_ble_eq_true rfl) zc_X9_letterNow rfl zm_X9_147 zi_X9_letterNow zs_X9_letterNow (zac_ok g673) (by decide) rfl rfl (zst_ok rfl (Nat.le_of_ble_eq_true rfl)) rfl ?_
        refine x_istore_n (pc := 66) dX9_readWay_66 rfl (by decide) rfl ?_
        refine x_aload_n (pc := 67) dX9_readWay_67 rfl rfl hl0 ?_
        obtain ⟨v552, e553, h⟩ := ob h
        refine y_getI (pc := 68) dX9_readWay_68 zf_X9_144 e553 (by decide) ?_
        refine x_istore_n (pc := 71) dX9_readWay_71 rfl (by decide) rfl ?_
        refine x_aload_n (pc := 72) dX9_readWay_72 rfl rfl hl0 ?_
        refine x_iconst (pc := 73) dX9_readWay_73 (v := 1) rfl ?_
        refine x_sipush (pc := 74) dX9_readWay_74 (v := 255) (by decide) ?_
        obtain ⟨g672, h⟩ := bt h
        obtain ⟨r554, M555, e556, h⟩ := ob2 h
        refine x_callV (av := [.int 1, .int 255]) (st := []) (pc := 77) dX9_readWay_77 (E_X9_number (d := d + 1) e556) rfl (Nat.le_of_ble_eq_true rfl) zc_X9_number rfl zm_X9_165 zi_X9_number zs_X9_number (zac_ok g672) (by decide) rfl rfl (zst_ok rfl (Nat.le_of_ble_eq_true rfl)) rfl ?_
        refine x_istore (pc := 80) dX9_readWay_80 (by decide) rfl ?_
        refine x_aload_n (pc := 82) dX9_readWay_82 rfl rfl hl0 ?_
        obtain ⟨v557, e558, h⟩ := ob h
        refine y_getI (pc := 83) dX9_readWay_83 zf_X9_138 e558 (by decide) ?_
        refine x_if_ne (pc := 86) dX9_readWay_86 (t := 114) rfl (fun c559 => ?_) (fun c559 => ?_)
        · rw [if_neg c559] at h
          refine x_aload_n (pc := 114) dX9_readWay_114 rfl rfl hl0 ?_
          obtain ⟨g671, h⟩ := bt h
          obtain ⟨M647, e648, h⟩ := ob h
          refine x_callV (av := []) (st := []) (pc := 115) dX9_readWay_115 (E_X9_end (d := d + 1) e648) rfl (Nat.le_of_ble_eq_true rfl) zc_X9_end rfl zm_X9_169 zi_X9_end zs_X9_end (zac_ok g671) (by decide) rfl rfl (zst_ok rfl (Nat.le_of_ble_eq_true rfl)) rfl ?_
          refine x_aload_n (pc := 118) dX9_readWay_118 rfl rfl hl0 ?_
          obtain ⟨v649, e650, h⟩ := ob h
          refine y_getI (pc := 119) dX9_readWay_119 zf_X9_138 e650 (by decide) ?_
          refine x_if_ne (pc := 122) dX9_readWay_122 (t := 164) rfl (fun c651 => ?_) (fun c651 => ?_)
          · rw [if_neg c651] at h
            obtain rfl := s1 h
            exact x_vret (pc := 164) dX9_readWay_164 rfl
          · rw [if_pos c651] at h
            refine x_aload_n (pc := 125) dX9_readWay_125 rfl rfl hl0 ?_
            obtain ⟨v652, e653, h⟩ := ob h
            refine y_getR (pc := 126) dX9_readWay_126 zf_X9_54 e653 ?_
            refine x_aload_n (pc := 129) dX9_readWay_129 rfl rfl hl0 ?_
            obtain ⟨v654, e655, h⟩ := ob h
            refine y_getR (pc := 130) dX9_readWay_130 zf_X9_54 e655 ?_
            refine x_iconst (pc := 133) dX9_readWay_133 (v := 2) rfl ?_
            refine x_iload_n (pc := 134) dX9_readWay_134 rfl rfl ?_
            refine x_imul (pc := 135) dX9_readWay_135 ?_
            obtain ⟨v656, e657, h⟩ := ob h
            refine y_iald (pc := 136) dX9_readWay_136 e657 ?_
            refine x_if_ne (pc := 137) dX9_readWay_137 (t := 146) rfl (fun c658 => ?_) (fun c658 => ?_)
            · rw [if_neg c658] at h
              refine x_iconst (pc := 146) dX9_readWay_146 (v := 2) rfl ?_
              refine x_iload_n (pc := 147) dX9_readWay_147 rfl rfl ?_
              refine x_imul (pc := 148) dX9_readWay_148 ?_
              refine x_iconst (pc := 149) dX9_readWay_149 (v := 1) rfl ?_
              refine x_iadd (pc := 150) dX9_readWay_150 ?_
              refine x_iload (pc := 151) dX9_readWay_151 rfl ?_
              obtain ⟨M665, e666, h⟩ := ob h
              refine y_iast (pc := 153) dX9_readWay_153 e666 ?_
              refine x_aload_n (pc := 154) dX9_readWay_154 rfl rfl hl0 ?_
              refine x_dup (pc := 155) dX9_readWay_155 rv_cr ?_
              obtain ⟨v667, e668, h⟩ := ob h
              refine y_getI (pc := 156) dX9_readWay_156 zf_X9_172 e668 (by decide) ?_
              refine x_iconst (pc := 159) dX9_readWay_159 (v := 1) rfl ?_
              refine x_iadd (pc := 160) dX9_readWay_160 ?_
              obtain ⟨M669, e670, h⟩ := ob h
              refine y_putI (pc := 161) dX9_readWay_161 zf_X9_172 e670 ?_
              obtain rfl := s1 h
              exact x_vret (pc := 164) dX9_readWay_164 rfl
            · rw [if_pos c658] at h
              refine x_iconst (pc := 140) dX9_readWay_140 (v := 2) rfl ?_
              refine x_iload_n (pc := 141) dX9_readWay_141 rfl rfl ?_
              refine x_imul (pc := 142) dX9_readWay_142 ?_
              refine x_goto (pc := 143) dX9_readWay_143 (t := 151) rfl ?_
              refine x_iload (pc := 151) dX9_readWay_151 rfl ?_
              obtain ⟨M659, e660, h⟩ := ob h
              refine y_iast (pc := 153) dX9_readWay_153 e660 ?_
              refine x_aload_n (pc := 154) dX9_readWay_154 rfl rfl hl0 ?_
              refine x_dup (pc := 155) dX9_readWay_155 rv_cr ?_
              obtain ⟨v661, e662, h⟩ := ob h
              refine y_getI (pc := 156) dX9_readWay_156 zf_X9_172 e662 (by decide) ?_
              refine x_iconst (pc := 159) dX9_readWay_159 (v := 1) rfl ?_
              refine x_iadd (pc := 160) dX9_readWay_160 ?_
              obtain ⟨M663, e664, h⟩ := ob h
              refine y_putI (pc := 161) dX9_readWay_161 zf_X9_172 e664 ?_
              obtain rfl := s1 h
              exact x_vret (pc := 164) dX9_readWay_164 rfl
        · rw [if_pos c559] at h
          refine x_iload (pc := 89) dX9_readWay_89 rfl ?_
          refine x_aload_n (pc := 91) dX9_readWay_91 rfl rfl hl0 ?_
          obtain ⟨v560, e561, h⟩ := ob h
          refine y_getI (pc := 92) dX9_readWay_92 zf_X9_162 e561 (by decide) ?_
          refine x_ishr (pc := 95) dX9_readWay_95 ?_
          refine x_if_ne (pc := 96) dX9_readWay_96 (t := 108) rfl (fun c562 => ?_) (fun c562 => ?_)
          · rw [if_neg c562] at h
            refine x_aload_n (pc := 108) dX9_readWay_108 rfl rfl hl0 ?_
            refine x_iconst (pc := 109) dX9_readWay_109 (v := 2) rfl ?_
            refine x_iload_n (pc := 110) dX9_readWay_110 rfl rfl ?_
            obtain ⟨g646, h⟩ := bt h
            obtain ⟨M619, e620, h⟩ := ob h
            refine x_callV (av := [.int 2, .int v552]) (st := []) (pc := 111) dX9_readWay_111 (E_X9_bad (d := d + 2) e620) rfl (Nat.le_of_ble_eq_true rfl) zc_X9_bad rfl zm_X9_155 zi_X9_bad zs_X9_bad (zac_ok g646) (by decide) rfl rfl (zst_ok rfl (Nat.le_of_ble_eq_true rfl)) rfl ?_
            refine x_aload_n (pc := 114) dX9_readWay_114 rfl rfl hl0 ?_
            obtain ⟨g645, h⟩ := bt h
            obtain ⟨M621, e622, h⟩ := ob h
            refine x_callV (av := []) (st := []) (pc := 115) dX9_readWay_115 (E_X9_end (d := d + 1) e622) rfl (Nat.le_of_ble_eq_true rfl) zc_X9_end rfl zm_X9_169 zi_X9_end zs_X9_end (zac_ok g645) (by decide) rfl rfl (zst_ok rfl (Nat.le_of_ble_eq_true rfl)) rfl ?_
            refine x_aload_n (pc := 118) dX9_readWay_118 rfl rfl hl0 ?_
            obtain ⟨v623, e624, h⟩ := ob h
            refine y_getI (pc := 119) dX9_readWay_119 zf_X9_138 e624 (by decide) ?_
            refine x_if_ne (pc := 122) dX9_readWay_122 (t := 164) rfl (fun c625 => ?_) (fun c625 => ?_)
            · rw [if_neg c625] at h
              obtain rfl := s1 h
              exact x_vret (pc := 164) dX9_readWay_164 rfl
            · rw [if_pos c625] at h
              refine x_aload_n (pc := 125) dX9_readWay_125 rfl rfl hl0 ?_
              obtain ⟨v626, e627, h⟩ := ob h
              refine y_getR (pc := 126) dX9_readWay_126 zf_X9_54 e627 ?_
              refine x_aload_n (pc := 129) dX9_readWay_129 rfl rfl hl0 ?_
              obtain ⟨v628, e629, h⟩ := ob h
              refine y_getR (pc := 130) dX9_readWay_130 zf_X9_54 e629 ?_
              refine x_iconst (pc := 133) dX9_readWay_133 (v := 2) rfl ?_
              refine x_iload_n (pc := 134) dX9_readWay_134 rfl rfl ?_
              refine x_imul (pc := 135) dX9_readWay_135 ?_
              obtain ⟨v630, e631, h⟩ := ob h
              refine y_iald (pc := 136) dX9_readWay_136 e631 ?_
              refine x_if_ne (pc := 137) dX9_readWay_137 (t := 146) rfl (fun c632 => ?_) (fun c632 => ?_)
              · rw [if_neg c632] at h
                refine x_iconst (pc := 146) dX9_readWay_146 (v := 2) rfl ?_
                refine x_iload_n (pc := 147) dX9_readWay_147 rfl rfl ?_
                refine x_imul (pc := 148) dX9_readWay_148 ?_
                refine x_iconst (pc := 149) dX9_readWay_149 (v := 1) rfl ?_
                refine x_iadd (pc := 150) dX9_readWay_150 ?_
                refine x_iload (pc := 151) dX9_readWay_151 rfl ?_
                obtain ⟨M639, e640, h⟩ := ob h
                refine y_iast (pc := 153) dX9_readWay_153 e640 ?_
                refine x_aload_n (pc := 154) dX9_readWay_154 rfl rfl hl0 ?_
                refine x_dup (pc := 155) dX9_readWay_155 rv_cr ?_
                obtain ⟨v641, e642, h⟩ := ob h
                refine y_getI (pc := 156) dX9_readWay_156 zf_X9_172 e642 (by decide) ?_
                refine x_iconst (pc := 159) dX9_readWay_159 (v := 1) rfl ?_
                refine x_iadd (pc := 160) dX9_readWay_160 ?_
                obtain ⟨M643, e644, h⟩ := ob h
                refine y_putI (pc := 161) dX9_readWay_161 zf_X9_172 e644 ?_
                obtain rfl := s1 h
                exact x_vret (pc := 164) dX9_readWay_164 rfl
              · rw [if_pos c632] at h
                refine x_iconst (pc := 140) dX9_readWay_140 (v := 2) rfl ?_
                refine x_iload_n (pc := 141) dX9_readWay_141 rfl rfl ?_
                refine x_imul (pc := 142) dX9_readWay_142 ?_
                refine x_goto (pc := 143) dX9_readWay_143 (t := 151) rfl ?_
                refine x_iload (pc := 151) dX9_readWay_151 rfl ?_
                obtain ⟨M633, e634, h⟩ := ob h
                refine y_iast (pc := 153) dX9_readWay_153 e634 ?_
                refine x_aload_n (pc := 154) dX9_readWay_154 rfl rfl hl0 ?_
                refine x_dup (pc := 155) dX9_readWay_155 rv_cr ?_
                obtain ⟨v635, e636, h⟩ := ob h
                refine y_getI (pc := 156) dX9_readWay_156 zf_X9_172 e636 (by decide) ?_
                refine x_iconst (pc := 159) dX9_readWay_159 (v := 1) rfl ?_
                refine x_iadd (pc := 160) dX9_readWay_160 ?_
                obtain ⟨M637, e638, h⟩ := ob h
                refine y_putI (pc := 161) dX9_readWay_161 zf_X9_172 e638 ?_
                obtain rfl := s1 h
                exact x_vret (pc := 164) dX9_readWay_164 rfl
          · rw [if_pos c562] at h
            refine x_iload (pc := 99) dX9_readWay_99 rfl ?_
            refine x_iload_n (pc := 101) dX9_readWay_101 rfl rfl ?_
            obtain ⟨r563, e564, h⟩ := ob h
            refine x_callS (av := [.int r554, .int r409]) (st := []) (pc := 102) dX9_readWay_102 (E_X9_has (d := d + 2) e564) rfl (Nat.le_of_ble_eq_true rfl) zc_X9_has rfl zm_X9_178 zs_X9_has rfl (zst_ok rfl (Nat.le_of_ble_eq_true rfl)) rfl ?_
            refine x_if_eq (pc := 105) dX9_readWay_105 (t := 114) rfl (fun c565 => ?_) (fun c565 => ?_)
            · rw [if_pos c565] at h
              refine x_aload_n (pc := 114) dX9_readWay_114 rfl rfl hl0 ?_
              obtain ⟨g590, h⟩ := bt h
              obtain ⟨M566, e567, h⟩ := ob h
              refine x_callV (av := []) (st := []) (pc := 115) dX9_readWay_115 (E_X9_end (d := d + 1) e567) rfl (Nat.le_of_ble_eq_true rfl) zc_X9_end rfl zm_X9_169 zi_X9_end zs_X9_end (zac_ok g590) (by decide) rfl rfl (zst_ok rfl (Nat.le_of_ble_eq_true rfl)) rfl ?_
              refine x_aload_n (pc := 118) dX9_readWay_118 rfl rfl hl0 ?_
              obtain ⟨v568, e569, h⟩ := ob h
              refine y_getI (pc := 119) dX9_readWay_119 zf_X9_138 e569 (by decide) ?_
              refine x_if_ne (pc := 122) dX9_readWay_122 (t := 164) rfl (fun c570 => ?_) (fun c570 => ?_)
              · rw [if_neg c570] at h
                obtain rfl := s1 h
                exact x_vret (pc := 164) dX9_readWay_164 rfl
              · rw [if_pos c570] at h
                refine x_aload_n (pc := 125) dX9_readWay_125 rfl rfl hl0 ?_
                obtain ⟨v571, e572, h⟩ := ob h
                refine y_getR (pc := 126) dX9_readWay_126 zf_X9_54 e572 ?_
                refine x_aload_n (pc := 129) dX9_readWay_129 rfl rfl hl0 ?_
                obtain ⟨v573, e574, h⟩ := ob h
                refine y_getR (pc := 130) dX9_readWay_130 zf_X9_54 e574 ?_
                refine x_iconst (pc := 133) dX9_readWay_133 (v := 2) rfl ?_
                refine x_iload_n (pc := 134) dX9_readWay_134 rfl rfl ?_
                refine x_imul (pc := 135) dX9_readWay_135 ?_
                obtain ⟨v575, e576, h⟩ := ob h
                refine y_iald (pc := 136) dX9_readWay_136 e576 ?_
                refine x_if_ne (pc := 137) dX9_readWay_137 (t := 146) rfl (fun c577 => ?_) (fun c577 => ?_)
                · rw [if_neg c577] at h
                  refine x_iconst (pc := 146) dX9_readWay_146 (v := 2) rfl ?_
                  refine x_iload_n (pc := 147) dX9_readWay_147 rfl rfl ?_
                  refine x_imul (pc := 148) dX9_readWay_148 ?_
                  refine x_iconst (pc := 149) dX9_readWay_149 (v := 1) rfl ?_
                  refine x_iadd (pc := 150) dX9_readWay_150 ?_
                  refine x_iload (pc := 151) dX9_readWay_151 rfl ?_
                  obtain ⟨M584, e585, h⟩ := ob h
                  refine y_iast (pc := 153) dX9_readWay_153 e585 ?_
                  refine x_aload_n (pc := 154) dX9_readWay_154 rfl rfl hl0 ?_
                  refine x_dup (pc := 155) dX9_readWay_155 rv_cr ?_
                  obtain ⟨v586, e587, h⟩ := ob h
                  refine y_getI (pc := 156) dX9_readWay_156 zf_X9_172 e587 (by decide) ?_
                  refine x_iconst (pc := 159) dX9_readWay_159 (v := 1) rfl ?_
                  refine x_iadd (pc := 160) dX9_readWay_160 ?_
                  obtain ⟨M588, e589, h⟩ := ob h
                  refine y_putI (pc := 161) dX9_readWay_161 zf_X9_172 e589 ?_
                  obtain rfl := s1 h
                  exact x_vret (pc := 164) dX9_readWay_164 rfl
                · rw [if_pos c577] at h
                  refine x_iconst (pc := 140) dX9_readWay_140 (v := 2) rfl ?_
                  refine x_iload_n (pc := 141) dX9_readWay_141 rfl rfl ?_
                  refine x_imul (pc := 142) dX9_readWay_142 ?_
                  refine x_goto (pc := 143) dX9_readWay_143 (t := 151) rfl ?_
                  refine x_iload (pc := 151) dX9_readWay_151 rfl ?_
                  obtain ⟨M578, e579, h⟩ := ob h
                  refine y_iast (pc := 153) dX9_readWay_153 e579 ?_
                  refine x_aload_n (pc := 154) dX9_readWay_154 rfl rfl hl0 ?_
                  refine x_dup (pc := 155) dX9_readWay_155 rv_cr ?_
                  obtain ⟨v580, e581, h⟩ := ob h
                  refine y_getI (pc := 156) dX9_readWay_156 zf_X9_172 e581 (by decide) ?_
                  refine x_iconst (pc := 159) dX9_readWay_159 (v := 1) rfl ?_
                  refine x_iadd (pc := 160) dX9_readWay_160 ?_
                  obtain ⟨M582, e583, h⟩ := ob h
                  refine y_putI (pc := 161) dX9_readWay_161 zf_X9_172 e583 ?_
                  obtain rfl := s1 h
                  exact x_vret (pc := 164) dX9_readWay_164 rfl
            · rw [if_neg c565] at h
              refine x_aload_n (pc := 108) dX9_readWay_108 rfl rfl hl0 ?_
              refine x_iconst (pc := 109) dX9_readWay_109 (v := 2) rfl ?_
              refine x_iload_n (pc := 110) dX9_readWay_110 rfl rfl ?_
              obtain ⟨g618, h⟩ := bt h
              obtain ⟨M591, e592, h⟩ := ob h
              refine x_callV (av := [.int 2, .int v552]) (st := []) (pc := 111) dX9_readWay_111 (E_X9_bad (d := d + 2) e592) rfl (Nat.le_of_ble_eq_true rfl) zc_X9_bad rfl zm_X9_155 zi_X9_bad zs_X9_bad (zac_ok g618) (by decide) rfl rfl (zst_ok rfl (Nat.le_of_ble_eq_true rfl)) rfl ?_
              refine x_aload_n (pc := 114) dX9_readWay_114 rfl rfl hl0 ?_
              obtain ⟨g617, h⟩ := bt h
              obtain ⟨M593, e594, h⟩ := ob h
              refine x_callV (av := []) (st := []) (pc := 115) dX9_readWay_115 (E_X9_end (d := d + 1) e594) rfl (Nat.le_of_ble_eq_true rfl) zc_X9_end rfl zm_X9_169 zi_X9_end zs_X9_end (zac_ok g617) (by decide) rfl rfl (zst_ok rfl (Nat.le_of_ble_eq_true rfl)) rfl ?_
              refine x_aload_n (pc := 118) dX9_readWay_118 rfl rfl hl0 ?_
              obtain ⟨v595, e596, h⟩ := ob h
              refine y_getI (pc := 119) dX9_readWay_119 zf_X9_138 e596 (by decide) ?_
              refine x_if_ne (pc := 122) dX9_readWay_122 (t := 164) rfl (fun c597 => ?_) (fun c597 => ?_)
              · rw [if_neg c597] at h
                obtain rfl := s1 h
                exact x_vret (pc := 164) dX9_readWay_164 rfl
              · rw [if_pos c597] at h
                refine x_aload_n (pc := 125) dX9_readWay_125 rfl rfl hl0 ?_
                obtain ⟨v598, e599, h⟩ := ob h
                refine y_getR (pc := 126) dX9_readWay_126 zf_X9_54 e599 ?_
                refine x_aload_n (pc := 129) dX9_readWay_129 rfl rfl hl0 ?_
                obtain ⟨v600, e601, h⟩ := ob h
                refine y_getR (pc := 130) dX9_readWay_130 zf_X9_54 e601 ?_
                refine x_iconst (pc := 133) dX9_readWay_133 (v := 2) rfl ?_
                refine x_iload_n (pc := 134) dX9_readWay_134 rfl rfl ?_
                refine x_imul (pc := 135) dX9_readWay_135 ?_
                obtain ⟨v602, e603, h⟩ := ob h
                refine y_iald (pc := 136) dX9_readWay_136 e603 ?_
                refine x_if_ne (pc := 137) dX9_readWay_137 (t := 146) rfl (fun c604 => ?_) (fun c604 => ?_)
                · rw [if_neg c604] at h
                  refine x_iconst (pc := 146) dX9_readWay_146 (v := 2) rfl ?_
                  refine x_iload_n (pc := 147) dX9_readWay_147 rfl rfl ?_
                  refine x_imul (pc := 148) dX9_readWay_148 ?_
                  refine x_iconst (pc := 149) dX9_readWay_149 (v := 1) rfl ?_
                  refine x_iadd (pc := 150) dX9_readWay_150 ?_
                  refine x_iload (pc := 151) dX9_readWay_151 rfl ?_
                  obtain ⟨M611, e612, h⟩ := ob h
                  refine y_iast (pc := 153) dX9_readWay_153 e612 ?_
                  refine x_aload_n (pc := 154) dX9_readWay_154 rfl rfl hl0 ?_
                  refine x_dup (pc := 155) dX9_readWay_155 rv_cr ?_
                  obtain ⟨v613, e614, h⟩ := ob h
                  refine y_getI (pc := 156) dX9_readWay_156 zf_X9_172 e614 (by decide) ?_
                  refine x_iconst (pc := 159) dX9_readWay_159 (v := 1) rfl ?_
                  refine x_iadd (pc := 160) dX9_readWay_160 ?_
                  obtain ⟨M615, e616, h⟩ := ob h
                  refine y_putI (pc := 161) dX9_readWay_161 zf_X9_172 e616 ?_
                  obtain rfl := s1 h
                  exact x_vret (pc := 164) dX9_readWay_164 rfl
                · rw [if_pos c604] at h
                  refine x_iconst (pc := 140) dX9_readWay_140 (v := 2) rfl ?_
                  refine x_iload_n (pc := 141) dX9_readWay_141 rfl rfl ?_
                  refine x_imul (pc := 142) dX9_readWay_142 ?_
                  refine x_goto (pc := 143) dX9_readWay_143 (t := 151) rfl ?_
                  refine x_iload (pc := 151) dX9_readWay_151 rfl ?_
                  obtain ⟨M605, e606, h⟩ := ob h
                  refine y_iast (pc := 153) dX9_readWay_153 e606 ?_
                  refine x_aload_n (pc := 154) dX9_readWay_154 rfl rfl hl0 ?_
                  refine x_dup (pc := 155) dX9_readWay_155 rv_cr ?_
                  obtain ⟨v607, e608, h⟩ := ob h
                  refine y_getI (pc := 156) dX9_readWay_156 zf_X9_172 e608 (by decide) ?_
                  refine x_iconst (pc := 159) dX9_readWay_159 (v := 1) rfl ?_
                  refine x_iadd (pc := 160) dX9_readWay_160 ?_
                  obtain ⟨M609, e610, h⟩ := ob h
                  refine y_putI (pc := 161) dX9_readWay_161 zf_X9_172 e610 ?_
                  obtain rfl := s1 h
                  exact x_vret (pc := 164) dX9_readWay_164 rfl
  · rw [if_pos c3] at h
    refine x_aload_n (pc := 9) dX9_readWay_9 rfl rfl hl0 ?_
    refine x_iconst (pc := 10) dX9_readWay_10 (v := 3) rfl ?_
    refine x_aload_n (pc := 11) dX9_readWay_11 rfl rfl hl0 ?_
    obtain ⟨v4, e5, h⟩ := ob h
    refine y_getI (pc := 12) dX9_readWay_12 zf_X9_144 e5 (by decide) ?_
    obtain ⟨g404, h⟩ := bt h
    obtain ⟨M6, e7, h⟩ := ob h
    refine x_callV (av := [.int 3, .int v4]) (st := []) (pc := 15) dX9_readWay_15 (E_X9_bad (d := d + 2) e7) rfl (Nat.le_of_ble_eq_true rfl) zc_X9_bad rfl zm_X9_155 zi_X9_bad zs_X9_bad (zac_ok g404) (by decide) rfl rfl (zst_ok rfl (Nat.le_of_ble_eq_true rfl)) rfl ?_
    refine x_aload_n (pc := 18) dX9_readWay_18 rfl rfl hl0 ?_
    refine x_dup (pc := 19) dX9_readWay_19 rv_cr ?_
    obtain ⟨v8, e9, h⟩ := ob h
    refine y_getI (pc := 20) dX9_readWay_20 zf_X9_144 e9 (by decide) ?_
    refine x_iconst (pc := 23) dX9_readWay_23 (v := 1) rfl ?_
    refine x_iadd (pc := 24) dX9_readWay_24 ?_
    obtain ⟨M10, e11, h⟩ := ob h
    refine y_putI (pc := 25) dX9_readWay_25 zf_X9_144 e11 ?_
    refine x_aload_n (pc := 28) dX9_readWay_28 rfl rfl hl0 ?_
    obtain ⟨g403, h⟩ := bt h
    obtain ⟨r12, M13, e14, h⟩ := ob2 h
    refine x_callV (av := []) (st := []) (pc := 29) dX9_readWay_29 (E_X9_wordTold (d := d) e14) rfl (Nat.le_of_ble_eq_true rfl) zc_X9_wordTold rfl zm_X9_175 zi_X9_wordTold zs_X9_wordTold (zac_ok g403) (by decide) rfl rfl (zst_ok rfl (Nat.le_of_ble_eq_true rfl)) rfl ?_
    refine x_istore_n (pc := 32) dX9_readWay_32 rfl (by decide) rfl ?_
    refine x_aload_n (pc := 33) dX9_readWay_33 rfl rfl hl0 ?_
    obtain ⟨v15, e16, h⟩ := ob h
    refine y_getI (pc := 34) dX9_readWay_34 zf_X9_138 e16 (by decide) ?_
    refine x_if_ne (pc := 37) dX9_readWay_37 (t := 62) rfl (fun c17 => ?_) (fun c17 => ?_)
    · rw [if_neg c17] at h
      refine x_aload_n (pc := 62) dX9_readWay_62 rfl rfl hl0 ?_
      obtain ⟨g402, h⟩ := bt h
      obtain ⟨r278, M279, e280, h⟩ := ob2 h
      refine x_callV (av := []) (st := []) (pc := 63) dX9_readWay_63 (E_X9_letterNow (d := d + 2) e280) rfl (Nat.le_of_ble_eq_true rfl) zc_X9_letterNow rfl zm_X9_147 zi_X9_letterNow zs_X9_letterNow (zac_ok g402) (by decide) rfl rfl (zst_ok rfl (Nat.le_of_ble_eq_true rfl)) rfl ?_
      refine x_istore_n (pc := 66) dX9_readWay_66 rfl (by decide) rfl ?_
      refine x_aload_n (pc := 67) dX9_readWay_67 rfl rfl hl0 ?_
      obtain ⟨v281, e282, h⟩ := ob h
      refine y_getI (pc := 68) dX9_readWay_68 zf_X9_144 e282 (by decide) ?_
      refine x_istore_n (pc := 71) dX9_readWay_71 rfl (by decide) rfl ?_
      refine x_aload_n (pc := 72) dX9_readWay_72 rfl rfl hl0 ?_
      refine x_iconst (pc := 73) dX9_readWay_73 (v := 1) rfl ?_
      refine x_sipush (pc := 74) dX9_readWay_74 (v := 255) (by decide) ?_
      obtain ⟨g401, h⟩ := bt h
      obtain ⟨r283, M284, e285, h⟩ := ob2 h
      refine x_callV (av := [.int 1, .int 255]) (st := []) (pc := 77) dX9_readWay_77 (E_X9_number (d := d + 1) e285) rfl (Nat.le_of_ble_eq_true rfl) zc_X9_number rfl zm_X9_165 zi_X9_number zs_X9_number (zac_ok g401) (by decide) rfl rfl (zst_ok rfl (Nat.le_of_ble_eq_true rfl)) rfl ?_
      refine x_istore (pc := 80) dX9_readWay_80 (by decide) rfl ?_
      refine x_aload_n (pc := 82) dX9_readWay_82 rfl rfl hl0 ?_
      obtain ⟨v286, e287, h⟩ := ob h
      refine y_getI (pc := 83) dX9_readWay_83 zf_X9_138 e287 (by decide) ?_
      refine x_if_ne (pc := 86) dX9_readWay_86 (t := 114) rfl (fun c288 => ?_) (fun c288 => ?_)
      · rw [if_neg c288] at h
        refine x_aload_n (pc := 114) dX9_readWay_114 rfl rfl hl0 ?_
        obtain ⟨g400, h⟩ := bt h
        obtain ⟨M376, e377, h⟩ := ob h
        refine x_callV (av := []) (st := []) (pc := 115) dX9_readWay_115 (E_X9_end (d := d + 1) e377) rfl (Nat.le_of_ble_eq_true rfl) zc_X9_end rfl zm_X9_169 zi_X9_end zs_X9_end (zac_ok g400) (by decide) rfl rfl (zst_ok rfl (Nat.le_of_ble_eq_true rfl)) rfl ?_
        refine x_aload_n (pc := 118) dX9_readWay_118 rfl rfl hl0 ?_
        obtain ⟨v378, e379, h⟩ := ob h
        refine y_getI (pc := 119) dX9_readWay_119 zf_X9_138 e379 (by decide) ?_
        refine x_if_ne (pc := 122) dX9_readWay_122 (t := 164) rfl (fun c380 => ?_) (fun c380 => ?_)
        · rw [if_neg c380] at h
          obtain rfl := s1 h
          exact x_vret (pc := 164) dX9_readWay_164 rfl
        · rw [if_pos c380] at h
          refine x_aload_n (pc := 125) dX9_readWay_125 rfl rfl hl0 ?_
          obtain ⟨v381, e382, h⟩ := ob h
          refine y_getR (pc := 126) dX9_readWay_126 zf_X9_54 e382 ?_
          refine x_aload_n (pc := 129) dX9_readWay_129 rfl rfl hl0 ?_
          obtain ⟨v383, e384, h⟩ := ob h
          refine y_getR (pc := 130) dX9_readWay_130 zf_X9_54 e384 ?_
          refine x_iconst (pc := 133) dX9_readWay_133 (v := 2) rfl ?_
          refine x_iload_n (pc := 134) dX9_readWay_134 rfl rfl ?_
          refine x_imul (pc := 135) dX9_readWay_135 ?_
          obtain ⟨v385, e386, h⟩ := ob h
          refine y_iald (pc := 136) dX9_readWay_136 e386 ?_
          refine x_if_ne (pc := 137) dX9_readWay_137 (t := 146) rfl (fun c387 => ?_) (fun c387 => ?_)
          · rw [if_neg c387] at h
            refine x_iconst (pc := 146) dX9_readWay_146 (v := 2) rfl ?_
            refine x_iload_n (pc := 147) dX9_readWay_147 rfl rfl ?_
            refine x_imul (pc := 148) dX9_readWay_148 ?_
            refine x_iconst (pc := 149) dX9_readWay_149 (v := 1) rfl ?_
            refine x_iadd (pc := 150) dX9_readWay_150 ?_
            refine x_iload (pc := 151) dX9_readWay_151 rfl ?_
            obtain ⟨M394, e395, h⟩ := ob h
            refine y_iast (pc := 153) dX9_readWay_153 e395 ?_
            refine x_aload_n (pc := 154) dX9_readWay_154 rfl rfl hl0 ?_
            refine x_dup (pc := 155) dX9_readWay_155 rv_cr ?_
            obtain ⟨v396, e397, h⟩ := ob h
            refine y_getI (pc := 156) dX9_readWay_156 zf_X9_172 e397 (by decide) ?_
            refine x_iconst (pc := 159) dX9_readWay_159 (v := 1) rfl ?_
            refine x_iadd (pc := 160) dX9_readWay_160 ?_
            obtain ⟨M398, e399, h⟩ := ob h
            refine y_putI (pc := 161) dX9_readWay_161 zf_X9_172 e399 ?_
            obtain rfl := s1 h
            exact x_vret (pc := 164) dX9_readWay_164 rfl
          · rw [if_pos c387] at h
            refine x_iconst (pc := 140) dX9_readWay_140 (v := 2) rfl ?_
            refine x_iload_n (pc := 141) dX9_readWay_141 rfl rfl ?_
            refine x_imul (pc := 142) dX9_readWay_142 ?_
            refine x_goto (pc := 143) dX9_readWay_143 (t := 151) rfl ?_
            refine x_iload (pc := 151) dX9_readWay_151 rfl ?_
            obtain ⟨M388, e389, h⟩ := ob h
            refine y_iast (pc := 153) dX9_readWay_153 e389 ?_
            refine x_aload_n (pc := 154) dX9_readWay_154 rfl rfl hl0 ?_
            refine x_dup (pc := 155) dX9_readWay_155 rv_cr ?_
            obtain ⟨v390, e391, h⟩ := ob h
            refine y_getI (pc := 156) dX9_readWay_156 zf_X9_172 e391 (by decide) ?_
            refine x_iconst (pc := 159) dX9_readWay_159 (v := 1) rfl ?_
            refine x_iadd (pc := 160) dX9_readWay_160 ?_
            obtain ⟨M392, e393, h⟩ := ob h
            refine y_putI (pc := 161) dX9_readWay_161 zf_X9_172 e393 ?_
            obtain rfl := s1 h
            exact x_vret (pc := 164) dX9_readWay_164 rfl
      · rw [if_pos c288] at h
        refine x_iload (pc := 89) dX9_readWay_89 rfl ?_
        refine x_aload_n (pc := 91) dX9_readWay_91 rfl rfl hl0 ?_
        obtain ⟨v289, e290, h⟩ := ob h
        refine y_getI (pc := 92) dX9_readWay_92 zf_X9_162 e290 (by decide) ?_
        refine x_ishr (pc := 95) dX9_readWay_95 ?_
        refine x_if_ne (pc := 96) dX9_readWay_96 (t := 108) rfl (fun c291 => ?_) (fun c291 => ?_)
        · rw [if_neg c291] at h
          refine x_aload_n (pc := 108) dX9_readWay_108 rfl rfl hl0 ?_
          refine x_iconst (pc := 109) dX9_readWay_109 (v := 2) rfl ?_
          refine x_iload_n (pc := 110) dX9_readWay_110 rfl rfl ?_
          obtain ⟨g375, h⟩ := bt h
          obtain ⟨M348, e349, h⟩ := ob h
          refine x_callV (av := [.int 2, .int v281]) (st := []) (pc := 111) dX9_readWay_111 (E_X9_bad (d := d + 2) e349) rfl (Nat.le_of_ble_eq_true rfl) zc_X9_bad rfl zm_X9_155 zi_X9_bad zs_X9_bad (zac_ok g375) (by decide) rfl rfl (zst_ok rfl (Nat.le_of_ble_eq_true rfl)) rfl ?_
          refine x_aload_n (pc := 114) dX9_readWay_114 rfl rfl hl0 ?_
          obtain ⟨g374, h⟩ := bt h
          obtain ⟨M350, e351, h⟩ := ob h
          refine x_callV (av := []) (st := []) (pc := 115) dX9_readWay_115 (E_X9_end (d := d + 1) e351) rfl (Nat.le_of_ble_eq_true rfl) zc_X9_end rfl zm_X9_169 zi_X9_end zs_X9_end (zac_ok g374) (by decide) rfl rfl (zst_ok rfl (Nat.le_of_ble_eq_true rfl)) rfl ?_
          refine x_aload_n (pc := 118) dX9_readWay_118 rfl rfl hl0 ?_
          obtain ⟨v352, e353, h⟩ := ob h
          refine y_getI (pc := 119) dX9_readWay_119 zf_X9_138 e353 (by decide) ?_
          refine x_if_ne (pc := 122) dX9_readWay_122 (t := 164) rfl (fun c354 => ?_) (fun c354 => ?_)
          · rw [if_neg c354] at h
            obtain rfl := s1 h
            exact x_vret (pc := 164) dX9_readWay_164 rfl
          · rw [if_pos c354] at h
            refine x_aload_n (pc := 125) dX9_readWay_125 rfl rfl hl0 ?_
            obtain ⟨v355, e356, h⟩ := ob h
            refine y_getR (pc := 126) dX9_readWay_126 zf_X9_54 e356 ?_
            refine x_aload_n (pc := 129) dX9_readWay_129 rfl rfl hl0 ?_
            obtain ⟨v357, e358, h⟩ := ob h
            refine y_getR (pc := 130) dX9_readWay_130 zf_X9_54 e358 ?_
            refine x_iconst (pc := 133) dX9_readWay_133 (v := 2) rfl ?_
            refine x_iload_n (pc := 134) dX9_readWay_134 rfl rfl ?_
            refine x_imul (pc := 135) dX9_readWay_135 ?_
            obtain ⟨v359, e360, h⟩ := ob h
            refine y_iald (pc := 136) dX9_readWay_136 e360 ?_
            refine x_if_ne (pc := 137) dX9_readWay_137 (t := 146) rfl (fun c361 => ?_) (fun c361 => ?_)
            · rw [if_neg c361] at h
              refine x_iconst (pc := 146) dX9_readWay_146 (v := 2) rfl ?_
              refine x_iload_n (pc := 147) dX9_readWay_147 rfl rfl ?_
              refine x_imul (pc := 148) dX9_readWay_148 ?_
              refine x_iconst (pc := 149) dX9_readWay_149 (v := 1) rfl ?_
              refine x_iadd (pc := 150) dX9_readWay_150 ?_
              refine x_iload (pc := 151) dX9_readWay_151 rfl ?_
              obtain ⟨M368, e369, h⟩ := ob h
              refine y_iast (pc := 153) dX9_readWay_153 e369 ?_
              refine x_aload_n (pc := 154) dX9_readWay_154 rfl rfl hl0 ?_
              refine x_dup (pc := 155) dX9_readWay_155 rv_cr ?_
              obtain ⟨v370, e371, h⟩ := ob h
              refine y_getI (pc := 156) dX9_readWay_156 zf_X9_172 e371 (by decide) ?_
              refine x_iconst (pc := 159) dX9_readWay_159 (v := 1) rfl ?_
              refine x_iadd (pc := 160) dX9_readWay_160 ?_
              obtain ⟨M372, e373, h⟩ := ob h
              refine y_putI (pc := 161) dX9_readWay_161 zf_X9_172 e373 ?_
              obtain rfl := s1 h
              exact x_vret (pc := 164) dX9_readWay_164 rfl
            · rw [if_pos c361] at h
              refine x_iconst (pc := 140) dX9_readWay_140 (v := 2) rfl ?_
              refine x_iload_n (pc := 141) dX9_readWay_141 rfl rfl ?_
              refine x_imul (pc := 142) dX9_readWay_142 ?_
              refine x_goto (pc := 143) dX9_readWay_143 (t := 151) rfl ?_
              refine x_iload (pc := 151) dX9_readWay_151 rfl ?_
              obtain ⟨M362, e363, h⟩ := ob h
              refine y_iast (pc := 153) dX9_readWay_153 e363 ?_
              refine x_aload_n (pc := 154) dX9_readWay_154 rfl rfl hl0 ?_
              refine x_dup (pc := 155) dX9_readWay_155 rv_cr ?_
              obtain ⟨v364, e365, h⟩ := ob h
              refine y_getI (pc := 156) dX9_readWay_156 zf_X9_172 e365 (by decide) ?_
              refine x_iconst (pc := 159) dX9_readWay_159 (v := 1) rfl ?_
              refine x_iadd (pc := 160) dX9_readWay_160 ?_
              obtain ⟨M366, e367, h⟩ := ob h
              refine y_putI (pc := 161) dX9_readWay_161 zf_X9_172 e367 ?_
              obtain rfl := s1 h
              exact x_vret (pc := 164) dX9_readWay_164 rfl
        · rw [if_pos c291] at h
          refine x_iload (pc := 99) dX9_readWay_99 rfl ?_
          refine x_iload_n (pc := 101) dX9_readWay_101 rfl rfl ?_
          obtain ⟨r292, e293, h⟩ := ob h
          refine x_callS (av := [.int r283, .int r12]) (st := []) (pc := 102) dX9_readWay_102 (E_X9_has (d := d + 2) e293) rfl (Nat.le_of_ble_eq_true rfl) zc_X9_has rfl zm_X9_178 zs_X9_has rfl (zst_ok rfl (Nat.le_of_ble_eq_true rfl)) rfl ?_
          refine x_if_eq (pc := 105) dX9_readWay_105 (t := 114) rfl (fun c294 => ?_) (fun c294 => ?_)
          · rw [if_pos c294] at h
            refine x_aload_n (pc := 114) dX9_readWay_114 rfl rfl hl0 ?_
            obtain ⟨g319, h⟩ := bt h
            obtain ⟨M295, e296, h⟩ := ob h
            refine x_callV (av := []) (st := []) (pc := 115) dX9_readWay_115 (E_X9_end (d := d + 1) e296) rfl (Nat.le_of_ble_eq_true rfl) zc_X9_end rfl zm_X9_169 zi_X9_end zs_X9_end (zac_ok g319) (by decide) rfl rfl (zst_ok rfl (Nat.le_of_ble_eq_true rfl)) rfl ?_
            refine x_aload_n (pc := 118) dX9_readWay_118 rfl rfl hl0 ?_
            obtain ⟨v297, e298, h⟩ := ob h
            refine y_getI (pc := 119) dX9_readWay_119 zf_X9_138 e298 (by decide) ?_
            refine x_if_ne (pc := 122) dX9_readWay_122 (t := 164) rfl (fun c299 => ?_) (fun c299 => ?_)
            · rw [if_neg c299] at h
              obtain rfl := s1 h
              exact x_vret (pc := 164) dX9_readWay_164 rfl
            · rw [if_pos c299] at h
              refine x_aload_n (pc := 125) dX9_readWay_125 rfl rfl hl0 ?_
              obtain ⟨v300, e301, h⟩ := ob h
              refine y_getR (pc := 126) dX9_readWay_126 zf_X9_54 e301 ?_
              refine x_aload_n (pc := 129) dX9_readWay_129 rfl rfl hl0 ?_
              obtain ⟨v302, e303, h⟩ := ob h
              refine y_getR (pc := 130) dX9_readWay_130 zf_X9_54 e303 ?_
              refine x_iconst (pc := 133) dX9_readWay_133 (v := 2) rfl ?_
              refine x_iload_n (pc := 134) dX9_readWay_134 rfl rfl ?_
              refine x_imul (pc := 135) dX9_readWay_135 ?_
              obtain ⟨v304, e305, h⟩ := ob h
              refine y_iald (pc := 136) dX9_readWay_136 e305 ?_
              refine x_if_ne (pc := 137) dX9_readWay_137 (t := 146) rfl (fun c306 => ?_) (fun c306 => ?_)
              · rw [if_neg c306] at h
                refine x_iconst (pc := 146) dX9_readWay_146 (v := 2) rfl ?_
                refine x_iload_n (pc := 147) dX9_readWay_147 rfl rfl ?_
                refine x_imul (pc := 148) dX9_readWay_148 ?_
                refine x_iconst (pc := 149) dX9_readWay_149 (v := 1) rfl ?_
                refine x_iadd (pc := 150) dX9_readWay_150 ?_
                refine x_iload (pc := 151) dX9_readWay_151 rfl ?_
                obtain ⟨M313, e314, h⟩ := ob h
                refine y_iast (pc := 153) dX9_readWay_153 e314 ?_
                refine x_aload_n (pc := 154) dX9_readWay_154 rfl rfl hl0 ?_
                refine x_dup (pc := 155) dX9_readWay_155 rv_cr ?_
                obtain ⟨v315, e316, h⟩ := ob h
                refine y_getI (pc := 156) dX9_readWay_156 zf_X9_172 e316 (by decide) ?_
                refine x_iconst (pc := 159) dX9_readWay_159 (v := 1) rfl ?_
                refine x_iadd (pc := 160) dX9_readWay_160 ?_
                obtain ⟨M317, e318, h⟩ := ob h
                refine y_putI (pc := 161) dX9_readWay_161 zf_X9_172 e318 ?_
                obtain rfl := s1 h
                exact x_vret (pc := 164) dX9_readWay_164 rfl
              · rw [if_pos c306] at h
                refine x_iconst (pc := 140) dX9_readWay_140 (v := 2) rfl ?_
                refine x_iload_n (pc := 141) dX9_readWay_141 rfl rfl ?_
                refine x_imul (pc := 142) dX9_readWay_142 ?_
                refine x_goto (pc := 143) dX9_readWay_143 (t := 151) rfl ?_
                refine x_iload (pc := 151) dX9_readWay_151 rfl ?_
                obtain ⟨M307, e308, h⟩ := ob h
                refine y_iast (pc := 153) dX9_readWay_153 e308 ?_
                refine x_aload_n (pc := 154) dX9_readWay_154 rfl rfl hl0 ?_
                refine x_dup (pc := 155) dX9_readWay_155 rv_cr ?_
                obtain ⟨v309, e310, h⟩ := ob h
                refine y_getI (pc := 156) dX9_readWay_156 zf_X9_172 e310 (by decide) ?_
                refine x_iconst (pc := 159) dX9_readWay_159 (v := 1) rfl ?_
                refine x_iadd (pc := 160) dX9_readWay_160 ?_
                obtain ⟨M311, e312, h⟩ := ob h
                refine y_putI (pc := 161) dX9_readWay_161 zf_X9_172 e312 ?_
                obtain rfl := s1 h
                exact x_vret (pc := 164) dX9_readWay_164 rfl
          · rw [if_neg c294] at h
            refine x_aload_n (pc := 108) dX9_readWay_108 rfl rfl hl0 ?_
            refine x_iconst (pc := 109) dX9_readWay_109 (v := 2) rfl ?_
            refine x_iload_n (pc := 110) dX9_readWay_110 rfl rfl ?_
            obtain ⟨g347, h⟩ := bt h
            obtain ⟨M320, e321, h⟩ := ob h
            refine x_callV (av := [.int 2, .int v281]) (st := []) (pc := 111) dX9_readWay_111 (E_X9_bad (d := d + 2) e321) rfl (Nat.le_of_ble_eq_true rfl) zc_X9_bad rfl zm_X9_155 zi_X9_bad zs_X9_bad (zac_ok g347) (by decide) rfl rfl (zst_ok rfl (Nat.le_of_ble_eq_true rfl)) rfl ?_
            refine x_aload_n (pc := 114) dX9_readWay_114 rfl rfl hl0 ?_
            obtain ⟨g346, h⟩ := bt h
            obtain ⟨M322, e323, h⟩ := ob h
            refine x_callV (av := []) (st := []) (pc := 115) dX9_readWay_115 (E_X9_end (d := d + 1) e323) rfl (Nat.le_of_ble_eq_true rfl) zc_X9_end rfl zm_X9_169 zi_X9_end zs_X9_end (zac_ok g346) (by decide) rfl rfl (zst_ok rfl (Nat.le_of_ble_eq_true rfl)) rfl ?_
            refine x_aload_n (pc := 118) dX9_readWay_118 rfl rfl hl0 ?_
            obtain ⟨v324, e325, h⟩ := ob h
            refine y_getI (pc := 119) dX9_readWay_119 zf_X9_138 e325 (by decide) ?_
            refine x_if_ne (pc := 122) dX9_readWay_122 (t := 164) rfl (fun c326 => ?_) (fun c326 => ?_)
            · rw [if_neg c326] at h
              obtain rfl := s1 h
              exact x_vret (pc := 164) dX9_readWay_164 rfl
            · rw [if_pos c326] at h
              refine x_aload_n (pc := 125) dX9_readWay_125 rfl rfl hl0 ?_
              obtain ⟨v327, e328, h⟩ := ob h
              refine y_getR (pc := 126) dX9_readWay_126 zf_X9_54 e328 ?_
              refine x_aload_n (pc := 129) dX9_readWay_129 rfl rfl hl0 ?_
              obtain ⟨v329, e330, h⟩ := ob h
              refine y_getR (pc := 130) dX9_readWay_130 zf_X9_54 e330 ?_
              refine x_iconst (pc := 133) dX9_readWay_133 (v := 2) rfl ?_
              refine x_iload_n (pc := 134) dX9_readWay_134 rfl rfl ?_
              refine x_imul (pc := 135) dX9_readWay_135 ?_
              obtain ⟨v331, e332, h⟩ := ob h
              refine y_iald (pc := 136) dX9_readWay_136 e332 ?_
              refine x_if_ne (pc := 137) dX9_readWay_137 (t := 146) rfl (fun c333 => ?_) (fun c333 => ?_)
              · rw [if_neg c333] at h
                refine x_iconst (pc := 146) dX9_readWay_146 (v := 2) rfl ?_
                refine x_iload_n (pc := 147) dX9_readWay_147 rfl rfl ?_
                refine x_imul (pc := 148) dX9_readWay_148 ?_
                refine x_iconst (pc := 149) dX9_readWay_149 (v := 1) rfl ?_
                refine x_iadd (pc := 150) dX9_readWay_150 ?_
                refine x_iload (pc := 151) dX9_readWay_151 rfl ?_
                obtain ⟨M340, e341, h⟩ := ob h
                refine y_iast (pc := 153) dX9_readWay_153 e341 ?_
                refine x_aload_n (pc := 154) dX9_readWay_154 rfl rfl hl0 ?_
                refine x_dup (pc := 155) dX9_readWay_155 rv_cr ?_
                obtain ⟨v342, e343, h⟩ := ob h
                refine y_getI (pc := 156) dX9_readWay_156 zf_X9_172 e343 (by decide) ?_
                refine x_iconst (pc := 159) dX9_readWay_159 (v := 1) rfl ?_
                refine x_iadd (pc := 160) dX9_readWay_160 ?_
                obtain ⟨M344, e345, h⟩ := ob h
                refine y_putI (pc := 161) dX9_readWay_161 zf_X9_172 e345 ?_
                obtain rfl := s1 h
                exact x_vret (pc := 164) dX9_readWay_164 rfl
              · rw [if_pos c333] at h
                refine x_iconst (pc := 140) dX9_readWay_140 (v := 2) rfl ?_
                refine x_iload_n (pc := 141) dX9_readWay_141 rfl rfl ?_
                refine x_imul (pc := 142) dX9_readWay_142 ?_
                refine x_goto (pc := 143) dX9_readWay_143 (t := 151) rfl ?_
                refine x_iload (pc := 151) dX9_readWay_151 rfl ?_
                obtain ⟨M334, e335, h⟩ := ob h
                refine y_iast (pc := 153) dX9_readWay_153 e335 ?_
                refine x_aload_n (pc := 154) dX9_readWay_154 rfl rfl hl0 ?_
                refine x_dup (pc := 155) dX9_readWay_155 rv_cr ?_
                obtain ⟨v336, e337, h⟩ := ob h
                refine y_getI (pc := 156) dX9_readWay_156 zf_X9_172 e337 (by decide) ?_
                refine x_iconst (pc := 159) dX9_readWay_159 (v := 1) rfl ?_
                refine x_iadd (pc := 160) dX9_readWay_160 ?_
                obtain ⟨M338, e339, h⟩ := ob h
                refine y_putI (pc := 161) dX9_readWay_161 zf_X9_172 e339 ?_
                obtain rfl := s1 h
                exact x_vret (pc := 164) dX9_readWay_164 rfl
    · rw [if_pos c17] at h
      refine x_aload_n (pc := 40) dX9_readWay_40 rfl rfl hl0 ?_
      obtain ⟨v18, e19, h⟩ := ob h
      refine y_getR (pc := 41) dX9_readWay_41 zf_X9_54 e19 ?_
      refine x_iconst (pc := 44) dX9_readWay_44 (v := 2) rfl ?_
      refine x_iload_n (pc := 45) dX9_readWay_45 rfl rfl ?_
      refine x_imul (pc := 46) dX9_readWay_46 ?_
      refine x_iconst (pc := 47) dX9_readWay_47 (v := 1) rfl ?_
      refine x_iadd (pc := 48) dX9_readWay_48 ?_
      obtain ⟨v20, e21, h⟩ := ob h
      refine y_iald (pc := 49) dX9_readWay_49 e21 ?_
      refine x_if_eq (pc := 50) dX9_readWay_50 (t := 62) rfl (fun c22 => ?_) (fun c22 => ?_)
      · rw [if_pos c22] at h
        refine x_aload_n (pc := 62) dX9_readWay_62 rfl rfl hl0 ?_
        obtain ⟨g147, h⟩ := bt h
        obtain ⟨r23, M24, e25, h⟩ := ob2 h
        refine x_callV (av := []) (st := []) (pc := 63) dX9_readWay_63 (E_X9_letterNow (d := d + 2) e25) rfl (Nat.le_of_ble_eq_true rfl) zc_X9_letterNow rfl zm_X9_147 zi_X9_letterNow zs_X9_letterNow (zac_ok g147) (by decide) rfl rfl (zst_ok rfl (Nat.le_of_ble_eq_true rfl)) rfl ?_
        refine x_istore_n (pc := 66) dX9_readWay_66 rfl (by decide) rfl ?_
        refine x_aload_n (pc := 67) dX9_readWay_67 rfl rfl hl0 ?_
        obtain ⟨v26, e27, h⟩ := ob h
        refine y_getI (pc := 68) dX9_readWay_68 zf_X9_144 e27 (by decide) ?_
        refine x_istore_n (pc := 71) dX9_readWay_71 rfl (by decide) rfl ?_
        refine x_aload_n (pc := 72) dX9_readWay_72 rfl rfl hl0 ?_
        refine x_iconst (pc := 73) dX9_readWay_73 (v := 1) rfl ?_
        refine x_sipush (pc := 74) dX9_readWay_74 (v := 255) (by decide) ?_
        obtain ⟨g146, h⟩ := bt h
        obtain ⟨r28, M29, e30, h⟩ := ob2 h
        refine x_callV (av := [.int 1, .int 255]) (st := []) (pc := 77) dX9_readWay_77 (E_X9_number (d := d + 1) e30) rfl (Nat.le_of_ble_eq_true rfl) zc_X9_number rfl zm_X9_165 zi_X9_number zs_X9_number (zac_ok g146) (by decide) rfl rfl (zst_ok rfl (Nat.le_of_ble_eq_true rfl)) rfl ?_
        refine x_istore (pc := 80) dX9_readWay_80 (by decide) rfl ?_
        refine x_aload_n (pc := 82) dX9_readWay_82 rfl rfl hl0 ?_
        obtain ⟨v31, e32, h⟩ := ob h
        refine y_getI (pc := 83) dX9_readWay_83 zf_X9_138 e32 (by decide) ?_
        refine x_if_ne (pc := 86) dX9_readWay_86 (t := 114) rfl (fun c33 => ?_) (fun c33 => ?_)
        · rw [if_neg c33] at h
          refine x_aload_n (pc := 114) dX9_readWay_114 rfl rfl hl0 ?_
          obtain ⟨g145, h⟩ := bt h
          obtain ⟨M121, e122, h⟩ := ob h
          refine x_callV (av := []) (st := []) (pc := 115) dX9_readWay_115 (E_X9_end (d := d + 1) e122) rfl (Nat.le_of_ble_eq_true rfl) zc_X9_end rfl zm_X9_169 zi_X9_end zs_X9_end (zac_ok g145) (by decide) rfl rfl (zst_ok rfl (Nat.le_of_ble_eq_true rfl)) rfl ?_
          refine x_aload_n (pc := 118) dX9_readWay_118 rfl rfl hl0 ?_
          obtain ⟨v123, e124, h⟩ := ob h
          refine y_getI (pc := 119) dX9_readWay_119 zf_X9_138 e124 (by decide) ?_
          refine x_if_ne (pc := 122) dX9_readWay_122 (t := 164) rfl (fun c125 => ?_) (fun c125 => ?_)
          · rw [if_neg c125] at h
            obtain rfl := s1 h
            exact x_vret (pc := 164) dX9_readWay_164 rfl
          · rw [if_pos c125] at h
            refine x_aload_n (pc := 125) dX9_readWay_125 rfl rfl hl0 ?_
            obtain ⟨v126, e127, h⟩ := ob h
            refine y_getR (pc := 126) dX9_readWay_126 zf_X9_54 e127 ?_
            refine x_aload_n (pc := 129) dX9_readWay_129 rfl rfl hl0 ?_
            obtain ⟨v128, e129, h⟩ := ob h
            refine y_getR (pc := 130) dX9_readWay_130 zf_X9_54 e129 ?_
            refine x_iconst (pc := 133) dX9_readWay_133 (v := 2) rfl ?_
            refine x_iload_n (pc := 134) dX9_readWay_134 rfl rfl ?_
            refine x_imul (pc := 135) dX9_readWay_135 ?_
            obtain ⟨v130, e131, h⟩ := ob h
            refine y_iald (pc := 136) dX9_readWay_136 e131 ?_
            refine x_if_ne (pc := 137) dX9_readWay_137 (t := 146) rfl (fun c132 => ?_) (fun c132 => ?_)
            · rw [if_neg c132] at h
              refine x_iconst (pc := 146) dX9_readWay_146 (v := 2) rfl ?_
              refine x_iload_n (pc := 147) dX9_readWay_147 rfl rfl ?_
              refine x_imul (pc := 148) dX9_readWay_148 ?_
              refine x_iconst (pc := 149) dX9_readWay_149 (v := 1) rfl ?_
              refine x_iadd (pc := 150) dX9_readWay_150 ?_
              refine x_iload (pc := 151) dX9_readWay_151 rfl ?_
              obtain ⟨M139, e140, h⟩ := ob h
              refine y_iast (pc := 153) dX9_readWay_153 e140 ?_
              refine x_aload_n (pc := 154) dX9_readWay_154 rfl rfl hl0 ?_
              refine x_dup (pc := 155) dX9_readWay_155 rv_cr ?_
              obtain ⟨v141, e142, h⟩ := ob h
              refine y_getI (pc := 156) dX9_readWay_156 zf_X9_172 e142 (by decide) ?_
              refine x_iconst (pc := 159) dX9_readWay_159 (v := 1) rfl ?_
              refine x_iadd (pc := 160) dX9_readWay_160 ?_
              obtain ⟨M143, e144, h⟩ := ob h
              refine y_putI (pc := 161) dX9_readWay_161 zf_X9_172 e144 ?_
              obtain rfl := s1 h
              exact x_vret (pc := 164) dX9_readWay_164 rfl
            · rw [if_pos c132] at h
              refine x_iconst (pc := 140) dX9_readWay_140 (v := 2) rfl ?_
              refine x_iload_n (pc := 141) dX9_readWay_141 rfl rfl ?_
              refine x_imul (pc := 142) dX9_readWay_142 ?_
              refine x_goto (pc := 143) dX9_readWay_143 (t := 151) rfl ?_
              refine x_iload (pc := 151) dX9_readWay_151 rfl ?_
              obtain ⟨M133, e134, h⟩ := ob h
              refine y_iast (pc := 153) dX9_readWay_153 e134 ?_
              refine x_aload_n (pc := 154) dX9_readWay_154 rfl rfl hl0 ?_
              refine x_dup (pc := 155) dX9_readWay_155 rv_cr ?_
              obtain ⟨v135, e136, h⟩ := ob h
              refine y_getI (pc := 156) dX9_readWay_156 zf_X9_172 e136 (by decide) ?_
              refine x_iconst (pc := 159) dX9_readWay_159 (v := 1) rfl ?_
              refine x_iadd (pc := 160) dX9_readWay_160 ?_
              obtain ⟨M137, e138, h⟩ := ob h
              refine y_putI (pc := 161) dX9_readWay_161 zf_X9_172 e138 ?_
              obtain rfl := s1 h
              exact x_vret (pc := 164) dX9_readWay_164 rfl
        · rw [if_pos c33] at h
          refine x_iload (pc := 89) dX9_readWay_89 rfl ?_
          refine x_aload_n (pc := 91) dX9_readWay_91 rfl rfl hl0 ?_
          obtain ⟨v34, e35, h⟩ := ob h
          refine y_getI (pc := 92) dX9_readWay_92 zf_X9_162 e35 (by decide) ?_
          refine x_ishr (pc := 95) dX9_readWay_95 ?_
          refine x_if_ne (pc := 96) dX9_readWay_96 (t := 108) rfl (fun c36 => ?_) (fun c36 => ?_)
          · rw [if_neg c36] at h
            refine x_aload_n (pc := 108) dX9_readWay_108 rfl rfl hl0 ?_
            refine x_iconst (pc := 109) dX9_readWay_109 (v := 2) rfl ?_
            refine x_iload_n (pc := 110) dX9_readWay_110 rfl rfl ?_
            obtain ⟨g120, h⟩ := bt h
            obtain ⟨M93, e94, h⟩ := ob h
            refine x_callV (av := [.int 2, .int v26]) (st := []) (pc := 111) dX9_readWay_111 (E_X9_bad (d := d + 2) e94) rfl (Nat.le_of_ble_eq_true rfl) zc_X9_bad rfl zm_X9_155 zi_X9_bad zs_X9_bad (zac_ok g120) (by decide) rfl rfl (zst_ok rfl (Nat.le_of_ble_eq_true rfl)) rfl ?_
            refine x_aload_n (pc := 114) dX9_readWay_114 rfl rfl hl0 ?_
            obtain ⟨g119, h⟩ := bt h
            obtain ⟨M95, e96, h⟩ := ob h
            refine x_callV (av := []) (st := []) (pc := 115) dX9_readWay_115 (E_X9_end (d := d + 1) e96) rfl (Nat.le_of_ble_eq_true rfl) zc_X9_end rfl zm_X9_169 zi_X9_end zs_X9_end (zac_ok g119) (by decide) rfl rfl (zst_ok rfl (Nat.le_of_ble_eq_true rfl)) rfl ?_
            refine x_aload_n (pc := 118) dX9_readWay_118 rfl rfl hl0 ?_
            obtain ⟨v97, e98, h⟩ := ob h
            refine y_getI (pc := 119) dX9_readWay_119 zf_X9_138 e98 (by decide) ?_
            refine x_if_ne (pc := 122) dX9_readWay_122 (t := 164) rfl (fun c99 => ?_) (fun c99 => ?_)
            · rw [if_neg c99] at h
              obtain rfl := s1 h
              exact x_vret (pc := 164) dX9_readWay_164 rfl
            · rw [if_pos c99] at h
              refine x_aload_n (pc := 125) dX9_readWay_125 rfl rfl hl0 ?_
              obtain ⟨v100, e101, h⟩ := ob h
              refine y_getR (pc := 126) dX9_readWay_126 zf_X9_54 e101 ?_
              refine x_aload_n (pc := 129) dX9_readWay_129 rfl rfl hl0 ?_
              obtain ⟨v102, e103, h⟩ := ob h
              refine y_getR (pc := 130) dX9_readWay_130 zf_X9_54 e103 ?_
              refine x_iconst (pc := 133) dX9_readWay_133 (v := 2) rfl ?_
              refine x_iload_n (pc := 134) dX9_readWay_134 rfl rfl ?_
              refine x_imul (pc := 135) dX9_readWay_135 ?_
              obtain ⟨v104, e105, h⟩ := ob h
              refine y_iald (pc := 136) dX9_readWay_136 e105 ?_
              refine x_if_ne (pc := 137) dX9_readWay_137 (t := 146) rfl (fun c106 => ?_) (fun c106 => ?_)
              · rw [if_neg c106] at h
                refine x_iconst (pc := 146) dX9_readWay_146 (v := 2) rfl ?_
                refine x_iload_n (pc := 147) dX9_readWay_147 rfl rfl ?_
                refine x_imul (pc := 148) dX9_readWay_148 ?_
                refine x_iconst (pc := 149) dX9_readWay_149 (v := 1) rfl ?_
                refine x_iadd (pc := 150) dX9_readWay_150 ?_
                refine x_iload (pc := 151) dX9_readWay_151 rfl ?_
                obtain ⟨M113, e114, h⟩ := ob h
                refine y_iast (pc := 153) dX9_readWay_153 e114 ?_
                refine x_aload_n (pc := 154) dX9_readWay_154 rfl rfl hl0 ?_
                refine x_dup (pc := 155) dX9_readWay_155 rv_cr ?_
                obtain ⟨v115, e116, h⟩ := ob h
                refine y_getI (pc := 156) dX9_readWay_156 zf_X9_172 e116 (by decide) ?_
                refine x_iconst (pc := 159) dX9_readWay_159 (v := 1) rfl ?_
                refine x_iadd (pc := 160) dX9_readWay_160 ?_
                obtain ⟨M117, e118, h⟩ := ob h
                refine y_putI (pc := 161) dX9_readWay_161 zf_X9_172 e118 ?_
                obtain rfl := s1 h
                exact x_vret (pc := 164) dX9_readWay_164 rfl
              · rw [if_pos c106] at h
                refine x_iconst (pc := 140) dX9_readWay_140 (v := 2) rfl ?_
                refine x_iload_n (pc := 141) dX9_readWay_141 rfl rfl ?_
                refine x_imul (pc := 142) dX9_readWay_142 ?_
                refine x_goto (pc := 143) dX9_readWay_143 (t := 151) rfl ?_
                refine x_iload (pc := 151) dX9_readWay_151 rfl ?_
                obtain ⟨M107, e108, h⟩ := ob h
                refine y_iast (pc := 153) dX9_readWay_153 e108 ?_
                refine x_aload_n (pc := 154) dX9_readWay_154 rfl rfl hl0 ?_
                refine x_dup (pc := 155) dX9_readWay_155 rv_cr ?_
                obtain ⟨v109, e110, h⟩ := ob h
                refine y_getI (pc := 156) dX9_readWay_156 zf_X9_172 e110 (by decide) ?_
                refine x_iconst (pc := 159) dX9_readWay_159 (v := 1) rfl ?_
                refine x_iadd (pc := 160) dX9_readWay_160 ?_
                obtain ⟨M111, e112, h⟩ := ob h
                refine y_putI (pc := 161) dX9_readWay_161 zf_X9_172 e112 ?_
                obtain rfl := s1 h
                exact x_vret (pc := 164) dX9_readWay_164 rfl
          · rw [if_pos c36] at h
            refine x_iload (pc := 99) dX9_readWay_99 rfl ?_
            refine x_iload_n (pc := 101) dX9_readWay_101 rfl rfl ?_
            obtain ⟨r37, e38, h⟩ := ob h
            refine x_callS (av := [.int r28, .int r12]) (st := []) (pc := 102) dX9_readWay_102 (E_X9_has (d := d + 2) e38) rfl (Nat.le_of_ble_eq_true rfl) zc_X9_has rfl zm_X9_178 zs_X9_has rfl (zst_ok rfl (Nat.le_of_ble_eq_true rfl)) rfl ?_
            refine x_if_eq (pc := 105) dX9_readWay_105 (t := 114) rfl (fun c39 => ?_) (fun c39 => ?_)
            · rw [if_pos c39] at h
              refine x_aload_n (pc := 114) dX9_readWay_114 rfl rfl hl0 ?_
              obtain ⟨g64, h⟩ := bt h
              obtain ⟨M40, e41, h⟩ := ob h
              refine x_callV (av := []) (st := []) (pc := 115) dX9_readWay_115 (E_X9_end (d := d + 1) e41) rfl (Nat.le_of_ble_eq_true rfl) zc_X9_end rfl zm_X9_169 zi_X9_end zs_X9_end (zac_ok g64) (by decide) rfl rfl (zst_ok rfl (Nat.le_of_ble_eq_true rfl)) rfl ?_
              refine x_aload_n (pc := 118) dX9_readWay_118 rfl rfl hl0 ?_
              obtain ⟨v42, e43, h⟩ := ob h
              refine y_getI (pc := 119) dX9_readWay_119 zf_X9_138 e43 (by decide) ?_
              refine x_if_ne (pc := 122) dX9_readWay_122 (t := 164) rfl (fun c44 => ?_) (fun c44 => ?_)
              · rw [if_neg c44] at h
                obtain rfl := s1 h
                exact x_vret (pc := 164) dX9_readWay_164 rfl
              · rw [if_pos c44] at h
                refine x_aload_n (pc := 125) dX9_readWay_125 rfl rfl hl0 ?_
                obtain ⟨v45, e46, h⟩ := ob h
                refine y_getR (pc := 126) dX9_readWay_126 zf_X9_54 e46 ?_
                refine x_aload_n (pc := 129) dX9_readWay_129 rfl rfl hl0 ?_
                obtain ⟨v47, e48, h⟩ := ob h
                refine y_getR (pc := 130) dX9_readWay_130 zf_X9_54 e48 ?_
                refine x_iconst (pc := 133) dX9_readWay_133 (v := 2) rfl ?_
                refine x_iload_n (pc := 134) dX9_readWay_134 rfl rfl ?_
                refine x_imul (pc := 135) dX9_readWay_135 ?_
                obtain ⟨v49, e50, h⟩ := ob h
                refine y_iald (pc := 136) dX9_readWay_136 e50 ?_
                refine x_if_ne (pc := 137) dX9_readWay_137 (t := 146) rfl (fun c51 => ?_) (fun c51 => ?_)
                · rw [if_neg c51] at h
                  refine x_iconst (pc := 146) dX9_readWay_146 (v := 2) rfl ?_
                  refine x_iload_n (pc := 147) dX9_readWay_147 rfl rfl ?_
                  refine x_imul (pc := 148) dX9_readWay_148 ?_
                  refine x_iconst (pc := 149) dX9_readWay_149 (v := 1) rfl ?_
                  refine x_iadd (pc := 150) dX9_readWay_150 ?_
                  refine x_iload (pc := 151) dX9_readWay_151 rfl ?_
                  obtain ⟨M58, e59, h⟩ := ob h
                  refine y_iast (pc := 153) dX9_readWay_153 e59 ?_
                  refine x_aload_n (pc := 154) dX9_readWay_154 rfl rfl hl0 ?_
                  refine x_dup (pc := 155) dX9_readWay_155 rv_cr ?_
                  obtain ⟨v60, e61, h⟩ := ob h
                  refine y_getI (pc := 156) dX9_readWay_156 zf_X9_172 e61 (by decide) ?_
                  refine x_iconst (pc := 159) dX9_readWay_159 (v := 1) rfl ?_
                  refine x_iadd (pc := 160) dX9_readWay_160 ?_
                  obtain ⟨M62, e63, h⟩ := ob h
                  refine y_putI (pc := 161) dX9_readWay_161 zf_X9_172 e63 ?_
                  obtain rfl := s1 h
                  exact x_vret (pc := 164) dX9_readWay_164 rfl
                · rw [if_pos c51] at h
                  refine x_iconst (pc := 140) dX9_readWay_140 (v := 2) rfl ?_
                  refine x_iload_n (pc := 141) dX9_readWay_141 rfl rfl ?_
                  refine x_imul (pc := 142) dX9_readWay_142 ?_
                  refine x_goto (pc := 143) dX9_readWay_143 (t := 151) rfl ?_
                  refine x_iload (pc := 151) dX9_readWay_151 rfl ?_
                  obtain ⟨M52, e53, h⟩ := ob h
                  refine y_iast (pc := 153) dX9_readWay_153 e53 ?_
                  refine x_aload_n (pc := 154) dX9_readWay_154 rfl rfl hl0 ?_
                  refine x_dup (pc := 155) dX9_readWay_155 rv_cr ?_
                  obtain ⟨v54, e55, h⟩ := ob h
                  refine y_getI (pc := 156) dX9_readWay_156 zf_X9_172 e55 (by decide) ?_
                  refine x_iconst (pc := 159) dX9_readWay_159 (v := 1) rfl ?_
                  refine x_iadd (pc := 160) dX9_readWay_160 ?_
                  obtain ⟨M56, e57, h⟩ := ob h
                  refine y_putI (pc := 161) dX9_readWay_161 zf_X9_172 e57 ?_
                  obtain rfl := s1 h
                  exact x_vret (pc := 164) dX9_readWay_164 rfl
            · rw [if_neg c39] at h
              refine x_aload_n (pc := 108) dX9_readWay_108 rfl rfl hl0 ?_
              refine x_iconst (pc := 109) dX9_readWay_109 (v := 2) rfl ?_
              refine x_iload_n (pc := 110) dX9_readWay_110 rfl rfl ?_
              obtain ⟨g92, h⟩ := bt h
              obtain ⟨M65, e66, h⟩ := ob h
              refine x_callV (av := [.int 2, .int v26]) (st := []) (pc := 111) dX9_readWay_111 (E_X9_bad (d := d + 2) e66) rfl (Nat.le_of_ble_eq_true rfl) zc_X9_bad rfl zm_X9_155 zi_X9_bad zs_X9_bad (zac_ok g92) (by decide) rfl rfl (zst_ok rfl (Nat.le_of_ble_eq_true rfl)) rfl ?_
              refine x_aload_n (pc := 114) dX9_readWay_114 rfl rfl hl0 ?_
              obtain ⟨g91, h⟩ := bt h
              obtain ⟨M67, e68, h⟩ := ob h
              refine x_callV (av := []) (st := []) (pc := 115) dX9_readWay_115 (E_X9_end (d := d + 1) e68) rfl (Nat.le_of_ble_eq_true rfl) zc_X9_end rfl zm_X9_169 zi_X9_end zs_X9_end (zac_ok g91) (by decide) rfl rfl (zst_ok rfl (Nat.le_of_ble_eq_true rfl)) rfl ?_
              refine x_aload_n (pc := 118) dX9_readWay_118 rfl rfl hl0 ?_
              obtain ⟨v69, e70, h⟩ := ob h
              refine y_getI (pc := 119) dX9_readWay_119 zf_X9_138 e70 (by decide) ?_
              refine x_if_ne (pc := 122) dX9_readWay_122 (t := 164) rfl (fun c71 => ?_) (fun c71 => ?_)
              · rw [if_neg c71] at h
                obtain rfl := s1 h
                exact x_vret (pc := 164) dX9_readWay_164 rfl
              · rw [if_pos c71] at h
                refine x_aload_n (pc := 125) dX9_readWay_125 rfl rfl hl0 ?_
                obtain ⟨v72, e73, h⟩ := ob h
                refine y_getR (pc := 126) dX9_readWay_126 zf_X9_54 e73 ?_
                refine x_aload_n (pc := 129) dX9_readWay_129 rfl rfl hl0 ?_
                obtain ⟨v74, e75, h⟩ := ob h
                refine y_getR (pc := 130) dX9_readWay_130 zf_X9_54 e75 ?_
                refine x_iconst (pc := 133) dX9_readWay_133 (v := 2) rfl ?_
                refine x_iload_n (pc := 134) dX9_readWay_134 rfl rfl ?_
                refine x_imul (pc := 135) dX9_readWay_135 ?_
                obtain ⟨v76, e77, h⟩ := ob h
                refine y_iald (pc := 136) dX9_readWay_136 e77 ?_
                refine x_if_ne (pc := 137) dX9_readWay_137 (t := 146) rfl (fun c78 => ?_) (fun c78 => ?_)
                · rw [if_neg c78] at h
                  refine x_iconst (pc := 146) dX9_readWay_146 (v := 2) rfl ?_
                  refine x_iload_n (pc := 147) dX9_readWay_147 rfl rfl ?_
                  refine x_imul (pc := 148) dX9_readWay_148 ?_
                  refine x_iconst (pc := 149) dX9_readWay_149 (v := 1) rfl ?_
                  refine x_iadd (pc := 150) dX9_readWay_150 ?_
                  refine x_iload (pc := 151) dX9_readWay_151 rfl ?_
                  obtain ⟨M85, e86, h⟩ := ob h
                  refine y_iast (pc := 153) dX9_readWay_153 e86 ?_
                  refine x_aload_n (pc := 154) dX9_readWay_154 rfl rfl hl0 ?_
                  refine x_dup (pc := 155) dX9_readWay_155 rv_cr ?_
                  obtain ⟨v87, e88, h⟩ := ob h
                  refine y_getI (pc := 156) dX9_readWay_156 zf_X9_172 e88 (by decide) ?_
                  refine x_iconst (pc := 159) dX9_readWay_159 (v := 1) rfl ?_
                  refine x_iadd (pc := 160) dX9_readWay_160 ?_
                  obtain ⟨M89, e90, h⟩ := ob h
                  refine y_putI (pc := 161) dX9_readWay_161 zf_X9_172 e90 ?_
                  obtain rfl := s1 h
                  exact x_vret (pc := 164) dX9_readWay_164 rfl
                · rw [if_pos c78] at h
                  refine x_iconst (pc := 140) dX9_readWay_140 (v := 2) rfl ?_
                  refine x_iload_n (pc := 141) dX9_readWay_141 rfl rfl ?_
                  refine x_imul (pc := 142) dX9_readWay_142 ?_
                  refine x_goto (pc := 143) dX9_readWay_143 (t := 151) rfl ?_
                  refine x_iload (pc := 151) dX9_readWay_151 rfl ?_
                  obtain ⟨M79, e80, h⟩ := ob h
                  refine y_iast (pc := 153) dX9_readWay_153 e80 ?_
                  refine x_aload_n (pc := 154) dX9_readWay_154 rfl rfl hl0 ?_
                  refine x_dup (pc := 155) dX9_readWay_155 rv_cr ?_
                  obtain ⟨v81, e82, h⟩ := ob h
                  refine y_getI (pc := 156) dX9_readWay_156 zf_X9_172 e82 (by decide) ?_
                  refine x_iconst (pc := 159) dX9_readWay_159 (v := 1) rfl ?_
                  refine x_iadd (pc := 160) dX9_readWay_160 ?_
                  obtain ⟨M83, e84, h⟩ := ob h
                  refine y_putI (pc := 161) dX9_readWay_161 zf_X9_172 e84 ?_
                  obtain rfl := s1 h
                  exact x_vret (pc := 164) dX9_readWay_164 rfl
      · rw [if_neg c22] at h
        refine x_aload_n (pc := 53) dX9_readWay_53 rfl rfl hl0 ?_
        refine x_iconst (pc := 54) dX9_readWay_54 (v := 4) rfl ?_
        refine x_aload_n (pc := 55) dX9_readWay_55 rfl rfl hl0 ?_
        obtain ⟨v148, e149, h⟩ := ob h
        refine y_getI (pc := 56) dX9_readWay_56 zf_X9_159 e149 (by decide) ?_
        obtain ⟨g277, h⟩ := bt h
        obtain ⟨M150, e151, h⟩ := ob h
        refine x_callV (av := [.int 4, .int v148]) (st := []) (pc := 59) dX9_readWay_59 (E_X9_bad (d := d + 2) e151) rfl (Nat.le_of_ble_eq_true rfl) zc_X9_bad rfl zm_X9_155 zi_X9_bad zs_X9_bad (zac_ok g277) (by decide) rfl rfl (zst_ok rfl (Nat.le_of_ble_eq_true rfl)) rfl ?_
        refine x_aload_n (pc := 62) dX9_readWay_62 rfl rfl hl0 ?_
        obtain ⟨g276, h⟩ := bt h
        obtain ⟨r152, M153, e154, h⟩ := ob2 h
        refine x_callV (av := []) (st := []) (pc := 63) dX9_readWay_63 (E_X9_letterNow (d := d + 2) e154) rfl (Nat.le_of_ble_eq_true rfl) zc_X9_letterNow rfl zm_X9_147 zi_X9_letterNow zs_X9_letterNow (zac_ok g276) (by decide) rfl rfl (zst_ok rfl (Nat.le_of_ble_eq_true rfl)) rfl ?_
        refine x_istore_n (pc := 66) dX9_readWay_66 rfl (by decide) rfl ?_
        refine x_aload_n (pc := 67) dX9_readWay_67 rfl rfl hl0 ?_
        obtain ⟨v155, e156, h⟩ := ob h
        refine y_getI (pc := 68) dX9_readWay_68 zf_X9_144 e156 (by decide) ?_
        refine x_istore_n (pc := 71) dX9_readWay_71 rfl (by decide) rfl ?_
        refine x_aload_n (pc := 72) dX9_readWay_72 rfl rfl hl0 ?_
        refine x_iconst (pc := 73) dX9_readWay_73 (v := 1) rfl ?_
        refine x_sipush (pc := 74) dX9_readWay_74 (v := 255) (by decide) ?_
        obtain ⟨g275, h⟩ := bt h
        obtain ⟨r157, M158, e159, h⟩ := ob2 h
        refine x_callV (av := [.int 1, .int 255]) (st := []) (pc := 77) dX9_readWay_77 (E_X9_number (d := d + 1) e159) rfl (Nat.le_of_ble_eq_true rfl) zc_X9_number rfl zm_X9_165 zi_X9_number zs_X9_number (zac_ok g275) (by decide) rfl rfl (zst_ok rfl (Nat.le_of_ble_eq_true rfl)) rfl ?_
        refine x_istore (pc := 80) dX9_readWay_80 (by decide) rfl ?_
        refine x_aload_n (pc := 82) dX9_readWay_82 rfl rfl hl0 ?_
        obtain ⟨v160, e161, h⟩ := ob h
        refine y_getI (pc := 83) dX9_readWay_83 zf_X9_138 e161 (by decide) ?_
        refine x_if_ne (pc := 86) dX9_readWay_86 (t := 114) rfl (fun c162 => ?_) (fun c162 => ?_)
        · rw [if_neg c162] at h
          refine x_aload_n (pc := 114) dX9_readWay_114 rfl rfl hl0 ?_
          obtain ⟨g274, h⟩ := bt h
          obtain ⟨M250, e251, h⟩ := ob h
          refine x_callV (av := []) (st := []) (pc := 115) dX9_readWay_115 (E_X9_end (d := d + 1) e251) rfl (Nat.le_of_ble_eq_true rfl) zc_X9_end rfl zm_X9_169 zi_X9_end zs_X9_end (zac_ok g274) (by decide) rfl rfl (zst_ok rfl (Nat.le_of_ble_eq_true rfl)) rfl ?_
          refine x_aload_n (pc := 118) dX9_readWay_118 rfl rfl hl0 ?_
          obtain ⟨v252, e253, h⟩ := ob h
          refine y_getI (pc := 119) dX9_readWay_119 zf_X9_138 e253 (by decide) ?_
          refine x_if_ne (pc := 122) dX9_readWay_122 (t := 164) rfl (fun c254 => ?_) (fun c254 => ?_)
          · rw [if_neg c254] at h
            obtain rfl := s1 h
            exact x_vret (pc := 164) dX9_readWay_164 rfl
          · rw [if_pos c254] at h
            refine x_aload_n (pc := 125) dX9_readWay_125 rfl rfl hl0 ?_
            obtain ⟨v255, e256, h⟩ := ob h
            refine y_getR (pc := 126) dX9_readWay_126 zf_X9_54 e256 ?_
            refine x_aload_n (pc := 129) dX9_readWay_129 rfl rfl hl0 ?_
            obtain ⟨v257, e258, h⟩ := ob h
            refine y_getR (pc := 130) dX9_readWay_130 zf_X9_54 e258 ?_
            refine x_iconst (pc := 133) dX9_readWay_133 (v := 2) rfl ?_
            refine x_iload_n (pc := 134) dX9_readWay_134 rfl rfl ?_
            refine x_imul (pc := 135) dX9_readWay_135 ?_
            obtain ⟨v259, e260, h⟩ := ob h
            refine y_iald (pc := 136) dX9_readWay_136 e260 ?_
            refine x_if_ne (pc := 137) dX9_readWay_137 (t := 146) rfl (fun c261 => ?_) (fun c261 => ?_)
            · rw [if_neg c261] at h
              refine x_iconst (pc := 146) dX9_readWay_146 (v := 2) rfl ?_
              refine x_iload_n (pc := 147) dX9_readWay_147 rfl rfl ?_
              refine x_imul (pc := 148) dX9_readWay_148 ?_
              refine x_iconst (pc := 149) dX9_readWay_149 (v := 1) rfl ?_
              refine x_iadd (pc := 150) dX9_readWay_150 ?_
              refine x_iload (pc := 151) dX9_readWay_151 rfl ?_
              obtain ⟨M268, e269, h⟩ := ob h
              refine y_iast (pc := 153) dX9_readWay_153 e269 ?_
              refine x_aload_n (pc := 154) dX9_readWay_154 rfl rfl hl0 ?_
              refine x_dup (pc := 155) dX9_readWay_155 rv_cr ?_
              obtain ⟨v270, e271, h⟩ := ob h
              refine y_getI (pc := 156) dX9_readWay_156 zf_X9_172 e271 (by decide) ?_
              refine x_iconst (pc := 159) dX9_readWay_159 (v := 1) rfl ?_
              refine x_iadd (pc := 160) dX9_readWay_160 ?_
              obtain ⟨M272, e273, h⟩ := ob h
              refine y_putI (pc := 161) dX9_readWay_161 zf_X9_172 e273 ?_
              obtain rfl := s1 h
              exact x_vret (pc := 164) dX9_readWay_164 rfl
            · rw [if_pos c261] at h
              refine x_iconst (pc := 140) dX9_readWay_140 (v := 2) rfl ?_
              refine x_iload_n (pc := 141) dX9_readWay_141 rfl rfl ?_
              refine x_imul (pc := 142) dX9_readWay_142 ?_
              refine x_goto (pc := 143) dX9_readWay_143 (t := 151) rfl ?_
              refine x_iload (pc := 151) dX9_readWay_151 rfl ?_
              obtain ⟨M262, e263, h⟩ := ob h
              refine y_iast (pc := 153) dX9_readWay_153 e263 ?_
              refine x_aload_n (pc := 154) dX9_readWay_154 rfl rfl hl0 ?_
              refine x_dup (pc := 155) dX9_readWay_155 rv_cr ?_
              obtain ⟨v264, e265, h⟩ := ob h
              refine y_getI (pc := 156) dX9_readWay_156 zf_X9_172 e265 (by decide) ?_
              refine x_iconst (pc := 159) dX9_readWay_159 (v := 1) rfl ?_
              refine x_iadd (pc := 160) dX9_readWay_160 ?_
              obtain ⟨M266, e267, h⟩ := ob h
              refine y_putI (pc := 161) dX9_readWay_161 zf_X9_172 e267 ?_
              obtain rfl := s1 h
              exact x_vret (pc := 164) dX9_readWay_164 rfl
        · rw [if_pos c162] at h
          refine x_iload (pc := 89) dX9_readWay_89 rfl ?_
          refine x_aload_n (pc := 91) dX9_readWay_91 rfl rfl hl0 ?_
          obtain ⟨v163, e164, h⟩ := ob h
          refine y_getI (pc := 92) dX9_readWay_92 zf_X9_162 e164 (by decide) ?_
          refine x_ishr (pc := 95) dX9_readWay_95 ?_
          refine x_if_ne (pc := 96) dX9_readWay_96 (t := 108) rfl (fun c165 => ?_) (fun c165 => ?_)
          · rw [if_neg c165] at h
            refine x_aload_n (pc := 108) dX9_readWay_108 rfl rfl hl0 ?_
            refine x_iconst (pc := 109) dX9_readWay_109 (v := 2) rfl ?_
            refine x_iload_n (pc := 110) dX9_readWay_110 rfl rfl ?_
            obtain ⟨g249, h⟩ := bt h
            obtain ⟨M222, e223, h⟩ := ob h
            refine x_callV (av := [.int 2, .int v155]) (st := []) (pc := 111) dX9_readWay_111 (E_X9_bad (d := d + 2) e223) rfl (Nat.le_of_ble_eq_true rfl) zc_X9_bad rfl zm_X9_155 zi_X9_bad zs_X9_bad (zac_ok g249) (by decide) rfl rfl (zst_ok rfl (Nat.le_of_ble_eq_true rfl)) rfl ?_
            refine x_aload_n (pc := 114) dX9_readWay_114 rfl rfl hl0 ?_
            obtain ⟨g248, h⟩ := bt h
            obtain ⟨M224, e225, h⟩ := ob h
            refine x_callV (av := []) (st := []) (pc := 115) dX9_readWay_115 (E_X9_end (d := d + 1) e225) rfl (Nat.le_of_ble_eq_true rfl) zc_X9_end rfl zm_X9_169 zi_X9_end zs_X9_end (zac_ok g248) (by decide) rfl rfl (zst_ok rfl (Nat.le_of_ble_eq_true rfl)) rfl ?_
            refine x_aload_n (pc := 118) dX9_readWay_118 rfl rfl hl0 ?_
            obtain ⟨v226, e227, h⟩ := ob h
            refine y_getI (pc := 119) dX9_readWay_119 zf_X9_138 e227 (by decide) ?_
            refine x_if_ne (pc := 122) dX9_readWay_122 (t := 164) rfl (fun c228 => ?_) (fun c228 => ?_)
            · rw [if_neg c228] at h
              obtain rfl := s1 h
              exact x_vret (pc := 164) dX9_readWay_164 rfl
            · rw [if_pos c228] at h
              refine x_aload_n (pc := 125) dX9_readWay_125 rfl rfl hl0 ?_
              obtain ⟨v229, e230, h⟩ := ob h
              refine y_getR (pc := 126) dX9_readWay_126 zf_X9_54 e230 ?_
              refine x_aload_n (pc := 129) dX9_readWay_129 rfl rfl hl0 ?_
              obtain ⟨v231, e232, h⟩ := ob h
              refine y_getR (pc := 130) dX9_readWay_130 zf_X9_54 e232 ?_
              refine x_iconst (pc := 133) dX9_readWay_133 (v := 2) rfl ?_
              refine x_iload_n (pc := 134) dX9_readWay_134 rfl rfl ?_
              refine x_imul (pc := 135) dX9_readWay_135 ?_
              obtain ⟨v233, e234, h⟩ := ob h
              refine y_iald (pc := 136) dX9_readWay_136 e234 ?_
              refine x_if_ne (pc := 137) dX9_readWay_137 (t := 146) rfl (fun c235 => ?_) (fun c235 => ?_)
              · rw [if_neg c235] at h
                refine x_iconst (pc := 146) dX9_readWay_146 (v := 2) rfl ?_
                refine x_iload_n (pc := 147) dX9_readWay_147 rfl rfl ?_
                refine x_imul (pc := 148) dX9_readWay_148 ?_
                refine x_iconst (pc := 149) dX9_readWay_149 (v := 1) rfl ?_
                refine x_iadd (pc := 150) dX9_readWay_150 ?_
                refine x_iload (pc := 151) dX9_readWay_151 rfl ?_
                obtain ⟨M242, e243, h⟩ := ob h
                refine y_iast (pc := 153) dX9_readWay_153 e243 ?_
                refine x_aload_n (pc := 154) dX9_readWay_154 rfl rfl hl0 ?_
                refine x_dup (pc := 155) dX9_readWay_155 rv_cr ?_
                obtain ⟨v244, e245, h⟩ := ob h
                refine y_getI (pc := 156) dX9_readWay_156 zf_X9_172 e245 (by decide) ?_
                refine x_iconst (pc := 159) dX9_readWay_159 (v := 1) rfl ?_
                refine x_iadd (pc := 160) dX9_readWay_160 ?_
                obtain ⟨M246, e247, h⟩ := ob h
                refine y_putI (pc := 161) dX9_readWay_161 zf_X9_172 e247 ?_
                obtain rfl := s1 h
                exact x_vret (pc := 164) dX9_readWay_164 rfl
              · rw [if_pos c235] at h
                refine x_iconst (pc := 140) dX9_readWay_140 (v := 2) rfl ?_
                refine x_iload_n (pc := 141) dX9_readWay_141 rfl rfl ?_
                refine x_imul (pc := 142) dX9_readWay_142 ?_
                refine x_goto (pc := 143) dX9_readWay_143 (t := 151) rfl ?_
                refine x_iload (pc := 151) dX9_readWay_151 rfl ?_
                obtain ⟨M236, e237, h⟩ := ob h
                refine y_iast (pc := 153) dX9_readWay_153 e237 ?_
                refine x_aload_n (pc := 154) dX9_readWay_154 rfl rfl hl0 ?_
                refine x_dup (pc := 155) dX9_readWay_155 rv_cr ?_
                obtain ⟨v238, e239, h⟩ := ob h
                refine y_getI (pc := 156) dX9_readWay_156 zf_X9_172 e239 (by decide) ?_
                refine x_iconst (pc := 159) dX9_readWay_159 (v := 1) rfl ?_
                refine x_iadd (pc := 160) dX9_readWay_160 ?_
                obtain ⟨M240, e241, h⟩ := ob h
                refine y_putI (pc := 161) dX9_readWay_161 zf_X9_172 e241 ?_
                obtain rfl := s1 h
                exact x_vret (pc := 164) dX9_readWay_164 rfl
          · rw [if_pos c165] at h
            refine x_iload (pc := 99) dX9_readWay_99 rfl ?_
            refine x_iload_n (pc := 101) dX9_readWay_101 rfl rfl ?_
            obtain ⟨r166, e167, h⟩ := ob h
            refine x_callS (av := [.int r157, .int r12]) (st := []) (pc := 102) dX9_readWay_102 (E_X9_has (d := d + 2) e167) rfl (Nat.le_of_ble_eq_true rfl) zc_X9_has rfl zm_X9_178 zs_X9_has rfl (zst_ok rfl (Nat.le_of_ble_eq_true rfl)) rfl ?_
            refine x_if_eq (pc := 105) dX9_readWay_105 (t := 114) rfl (fun c168 => ?_) (fun c168 => ?_)
            · rw [if_pos c168] at h
              refine x_aload_n (pc := 114) dX9_readWay_114 rfl rfl hl0 ?_
              obtain ⟨g193, h⟩ := bt h
              obtain ⟨M169, e170, h⟩ := ob h
              refine x_callV (av := []) (st := []) (pc := 115) dX9_readWay_115 (E_X9_end (d := d + 1) e170) rfl (Nat.le_of_ble_eq_true rfl) zc_X9_end rfl zm_X9_169 zi_X9_end zs_X9_end (zac_ok g193) (by decide) rfl rfl (zst_ok rfl (Nat.le_of_ble_eq_true rfl)) rfl ?_
              refine x_aload_n (pc := 118) dX9_readWay_118 rfl rfl hl0 ?_
              obtain ⟨v171, e172, h⟩ := ob h
              refine y_getI (pc := 119) dX9_readWay_119 zf_X9_138 e172 (by decide) ?_
              refine x_if_ne (pc := 122) dX9_readWay_122 (t := 164) rfl (fun c173 => ?_) (fun c173 => ?_)
              · rw [if_neg c173] at h
                obtain rfl := s1 h
                exact x_vret (pc := 164) dX9_readWay_164 rfl
              · rw [if_pos c173] at h
                refine x_aload_n (pc := 125) dX9_readWay_125 rfl rfl hl0 ?_
                obtain ⟨v174, e175, h⟩ := ob h
                refine y_getR (pc := 126) dX9_readWay_126 zf_X9_54 e175 ?_
                refine x_aload_n (pc := 129) dX9_readWay_129 rfl rfl hl0 ?_
                obtain ⟨v176, e177, h⟩ := ob h
                refine y_getR (pc := 130) dX9_readWay_130 zf_X9_54 e177 ?_
                refine x_iconst (pc := 133) dX9_readWay_133 (v := 2) rfl ?_
                refine x_iload_n (pc := 134) dX9_readWay_134 rfl rfl ?_
                refine x_imul (pc := 135) dX9_readWay_135 ?_
                obtain ⟨v178, e179, h⟩ := ob h
                refine y_iald (pc := 136) dX9_readWay_136 e179 ?_
                refine x_if_ne (pc := 137) dX9_readWay_137 (t := 146) rfl (fun c180 => ?_) (fun c180 => ?_)
                · rw [if_neg c180] at h
                  refine x_iconst (pc := 146) dX9_readWay_146 (v := 2) rfl ?_
                  refine x_iload_n (pc := 147) dX9_readWay_147 rfl rfl ?_
                  refine x_imul (pc := 148) dX9_readWay_148 ?_
                  refine x_iconst (pc := 149) dX9_readWay_149 (v := 1) rfl ?_
                  refine x_iadd (pc := 150) dX9_readWay_150 ?_
                  refine x_iload (pc := 151) dX9_readWay_151 rfl ?_
                  obtain ⟨M187, e188, h⟩ := ob h
                  refine y_iast (pc := 153) dX9_readWay_153 e188 ?_
                  refine x_aload_n (pc := 154) dX9_readWay_154 rfl rfl hl0 ?_
                  refine x_dup (pc := 155) dX9_readWay_155 rv_cr ?_
                  obtain ⟨v189, e190, h⟩ := ob h
                  refine y_getI (pc := 156) dX9_readWay_156 zf_X9_172 e190 (by decide) ?_
                  refine x_iconst (pc := 159) dX9_readWay_159 (v := 1) rfl ?_
                  refine x_iadd (pc := 160) dX9_readWay_160 ?_
                  obtain ⟨M191, e192, h⟩ := ob h
                  refine y_putI (pc := 161) dX9_readWay_161 zf_X9_172 e192 ?_
                  obtain rfl := s1 h
                  exact x_vret (pc := 164) dX9_readWay_164 rfl
                · rw [if_pos c180] at h
                  refine x_iconst (pc := 140) dX9_readWay_140 (v := 2) rfl ?_
                  refine x_iload_n (pc := 141) dX9_readWay_141 rfl rfl ?_
                  refine x_imul (pc := 142) dX9_readWay_142 ?_
                  refine x_goto (pc := 143) dX9_readWay_143 (t := 151) rfl ?_
                  refine x_iload (pc := 151) dX9_readWay_151 rfl ?_
                  obtain ⟨M181, e182, h⟩ := ob h
                  refine y_iast (pc := 153) dX9_readWay_153 e182 ?_
                  refine x_aload_n (pc := 154) dX9_readWay_154 rfl rfl hl0 ?_
                  refine x_dup (pc := 155) dX9_readWay_155 rv_cr ?_
                  obtain ⟨v183, e184, h⟩ := ob h
                  refine y_getI (pc := 156) dX9_readWay_156 zf_X9_172 e184 (by decide) ?_
                  refine x_iconst (pc := 159) dX9_readWay_159 (v := 1) rfl ?_
                  refine x_iadd (pc := 160) dX9_readWay_160 ?_
                  obtain ⟨M185, e186, h⟩ := ob h
                  refine y_putI (pc := 161) dX9_readWay_161 zf_X9_172 e186 ?_
                  obtain rfl := s1 h
                  exact x_vret (pc := 164) dX9_readWay_164 rfl
            · rw [if_neg c168] at h
              refine x_aload_n (pc := 108) dX9_readWay_108 rfl rfl hl0 ?_
              refine x_iconst (pc := 109) dX9_readWay_109 (v := 2) rfl ?_
              refine x_iload_n (pc := 110) dX9_readWay_110 rfl rfl ?_
              obtain ⟨g221, h⟩ := bt h
              obtain ⟨M194, e195, h⟩ := ob h
              refine x_callV (av := [.int 2, .int v155]) (st := []) (pc := 111) dX9_readWay_111 (E_X9_bad (d := d + 2) e195) rfl (Nat.le_of_ble_eq_true rfl) zc_X9_bad rfl zm_X9_155 zi_X9_bad zs_X9_bad (zac_ok g221) (by decide) rfl rfl (zst_ok rfl (Nat.le_of_ble_eq_true rfl)) rfl ?_
              refine x_aload_n (pc := 114) dX9_readWay_114 rfl rfl hl0 ?_
              obtain ⟨g220, h⟩ := bt h
              obtain ⟨M196, e197, h⟩ := ob h
              refine x_callV (av := []) (st := []) (pc := 115) dX9_readWay_115 (E_X9_end (d := d + 1) e197) rfl (Nat.le_of_ble_eq_true rfl) zc_X9_end rfl zm_X9_169 zi_X9_end zs_X9_end (zac_ok g220) (by decide) rfl rfl (zst_ok rfl (Nat.le_of_ble_eq_true rfl)) rfl ?_
              refine x_aload_n (pc := 118) dX9_readWay_118 rfl rfl hl0 ?_
              obtain ⟨v198, e199, h⟩ := ob h
              refine y_getI (pc := 119) dX9_readWay_119 zf_X9_138 e199 (by decide) ?_
              refine x_if_ne (pc := 122) dX9_readWay_122 (t := 164) rfl (fun c200 => ?_) (fun c200 => ?_)
              · rw [if_neg c200] at h
                obtain rfl := s1 h
                exact x_vret (pc := 164) dX9_readWay_164 rfl
              · rw [if_pos c200] at h
                refine x_aload_n (pc := 125) dX9_readWay_125 rfl rfl hl0 ?_
                obtain ⟨v201, e202, h⟩ := ob h
                refine y_getR (pc := 126) dX9_readWay_126 zf_X9_54 e202 ?_
                refine x_aload_n (pc := 129) dX9_readWay_129 rfl rfl hl0 ?_
                obtain ⟨v203, e204, h⟩ := ob h
                refine y_getR (pc := 130) dX9_readWay_130 zf_X9_54 e204 ?_
                refine x_iconst (pc := 133) dX9_readWay_133 (v := 2) rfl ?_
                refine x_iload_n (pc := 134) dX9_readWay_134 rfl rfl ?_
                refine x_imul (pc := 135) dX9_readWay_135 ?_
                obtain ⟨v205, e206, h⟩ := ob h
                refine y_iald (pc := 136) dX9_readWay_136 e206 ?_
                refine x_if_ne (pc := 137) dX9_readWay_137 (t := 146) rfl (fun c207 => ?_) (fun c207 => ?_)
                · rw [if_neg c207] at h
                  refine x_iconst (pc := 146) dX9_readWay_146 (v := 2) rfl ?_
                  refine x_iload_n (pc := 147) dX9_readWay_147 rfl rfl ?_
                  refine x_imul (pc := 148) dX9_readWay_148 ?_
                  refine x_iconst (pc := 149) dX9_readWay_149 (v := 1) rfl ?_
                  refine x_iadd (pc := 150) dX9_readWay_150 ?_
                  refine x_iload (pc := 151) dX9_readWay_151 rfl ?_
                  obtain ⟨M214, e215, h⟩ := ob h
                  refine y_iast (pc := 153) dX9_readWay_153 e215 ?_
                  refine x_aload_n (pc := 154) dX9_readWay_154 rfl rfl hl0 ?_
                  refine x_dup (pc := 155) dX9_readWay_155 rv_cr ?_
                  obtain ⟨v216, e217, h⟩ := ob h
                  refine y_getI (pc := 156) dX9_readWay_156 zf_X9_172 e217 (by decide) ?_
                  refine x_iconst (pc := 159) dX9_readWay_159 (v := 1) rfl ?_
                  refine x_iadd (pc := 160) dX9_readWay_160 ?_
                  obtain ⟨M218, e219, h⟩ := ob h
                  refine y_putI (pc := 161) dX9_readWay_161 zf_X9_172 e219 ?_
                  obtain rfl := s1 h
                  exact x_vret (pc := 164) dX9_readWay_164 rfl
                · rw [if_pos c207] at h
                  refine x_iconst (pc := 140) dX9_readWay_140 (v := 2) rfl ?_
                  refine x_iload_n (pc := 141) dX9_readWay_141 rfl rfl ?_
                  refine x_imul (pc := 142) dX9_readWay_142 ?_
                  refine x_goto (pc := 143) dX9_readWay_143 (t := 151) rfl ?_
                  refine x_iload (pc := 151) dX9_readWay_151 rfl ?_
                  obtain ⟨M208, e209, h⟩ := ob h
                  refine y_iast (pc := 153) dX9_readWay_153 e209 ?_
                  refine x_aload_n (pc := 154) dX9_readWay_154 rfl rfl hl0 ?_
                  refine x_dup (pc := 155) dX9_readWay_155 rv_cr ?_
                  obtain ⟨v210, e211, h⟩ := ob h
                  refine y_getI (pc := 156) dX9_readWay_156 zf_X9_172 e211 (by decide) ?_
                  refine x_iconst (pc := 159) dX9_readWay_159 (v := 1) rfl ?_
                  refine x_iadd (pc := 160) dX9_readWay_160 ?_
                  obtain ⟨M212, e213, h⟩ := ob h
                  refine y_putI (pc := 161) dX9_readWay_161 zf_X9_172 e213 ?_
                  obtain rfl := s1 h
                  exact x_vret (pc := 164) dX9_readWay_164 rfl
def f_X9_readPointing (l0 : Nat) (M : zM) : Option (zM) := bif Nat.ble 1 l0 then ((oI M l0 9 58 17).bind fun v1 => (pI M l0 9 58 17 (v1 + 1)).bind fun M3 => bif zac M3 l0 9 58 then (b2 (f_X9_wordTold l0 M3) fun r5 M6 => (oI M6 l0 9 58 18).bind fun v8 => if v8 = 0 then ((oR M6 l0 9 58 30).bind fun v11 => (aZ M6 v11 r5).bind fun v13 => if v13 = 0 then (bif zac M6 l0 9 58 then ((f_X9_end l0 M6).bind fun M16 => (oI M16 l0 9 58 18).bind fun v18 => if v18 = 0 then ((oR M16 l0 9 58 30).bind fun v21 => (sZ M16 v21 r5 1).bind fun M23 => some M23) else (some M16)) else none) else ((oI M6 l0 9 58 33).bind fun v26 => bif zac M6 l0 9 58 then ((f_X9_bad l0 4 v26 M6).bind fun M28 => bif zac M28 l0 9 58 then ((f_X9_end l0 M28).bind fun M30 => (oI M30 l0 9 58 18).bind fun v32 => if v32 = 0 then ((oR M30 l0 9 58 30).bind fun v35 => (sZ M30 v35 r5 1).bind fun M37 => some M37) else (some M30)) else none) else none)) else (bif zac M6 l0 9 58 then ((f_X9_end l0 M6).bind fun M41 => (oI M41 l0 9 58 18).bind fun v43 => if v43 = 0 then ((oR M41 l0 9 58 30).bind fun v46 => (sZ M41 v46 r5 1).bind fun M48 => some M48) else (some M41)) else none)) else none) else none
theorem E_X9_readPointing {G : zG} {d : Nat} {l0 : Nat} {M MR : zM} (h : f_X9_readPointing l0 M = some MR) : Ex G (d + 3) yX9_readPointing cX9_readPointing 2 none 0 (zent0 [.ref l0] 2) [] M (none, MR) := by
  unfold f_X9_readPointing at h
  obtain ⟨zz0, h⟩ := bt h
  have hl0 := bz zz0
  show Ex _ _ _ _ _ _ 0 [.ref l0, .null] [] _ _
  refine x_aload_n (pc := 0) dX9_readPointing_0 rfl rfl hl0 ?_
  refine x_dup (pc := 1) dX9_readPointing_1 rv_cr ?_
  obtain ⟨v1, e2, h⟩ := ob h
  refine y_getI (pc := 2) dX9_readPointing_2 zf_X9_144 e2 (by decide) ?_
  refine x_iconst (pc := 5) dX9_readPointing_5 (v := 1) rfl ?_
  refine x_iadd (pc := 6) dX9_readPointing_6 ?_
  obtain ⟨M3, e4, h⟩ := ob h
  refine y_putI (pc := 7) dX9_readPointing_7 zf_X9_144 e4 ?_
  refine x_aload_n (pc := 10) dX9_readPointing_10 rfl rfl hl0 ?_
  obtain ⟨g51, h⟩ := bt h
  obtain ⟨r5, M6, e7, h⟩ := ob2 h
  refine x_callV (av := []) (st := []) (pc := 11) dX9_readPointing_11 (E_X9_wordTold (d := d) e7) rfl (Nat.le_of_ble_eq_true rfl) zc_X9_wordTold rfl zm_X9_175 zi_X9_wordTold zs_X9_wordTold (zac_ok g51) (by decide) rfl rfl (zst_ok rfl (Nat.le_of_ble_eq_true rfl)) rfl ?_
  refine x_istore_n (pc := 14) dX9_readPointing_14 rfl (by decide) rfl ?_
  refine x_aload_n (pc := 15) dX9_readPointing_15 rfl rfl hl0 ?_
  obtain ⟨v8, e9, h⟩ := ob h
  refine y_getI (pc := 16) dX9_readPointing_16 zf_X9_138 e9 (by decide) ?_
  refine x_if_ne (pc := 19) dX9_readPointing_19 (t := 40) rfl (fun c10 => ?_) (fun c10 => ?_)
  · rw [if_neg c10] at h
    refine x_aload_n (pc := 40) dX9_readPointing_40 rfl rfl hl0 ?_
    obtain ⟨g50, h⟩ := bt h
    obtain ⟨M41, e42, h⟩ := ob h
    refine x_callV (av := []) (st := []) (pc := 41) dX9_readPointing_41 (E_X9_end (d := d + 1) e42) rfl (Nat.le_of_ble_eq_true rfl) zc_X9_end rfl zm_X9_169 zi_X9_end zs_X9_end (zac_ok g50) (by decide) rfl rfl (zst_ok rfl (Nat.le_of_ble_eq_true rfl)) rfl ?_
    refine x_aload_n (pc := 44) dX9_readPointing_44 rfl rfl hl0 ?_
    obtain ⟨v43, e44, h⟩ := ob h
    refine y_getI (pc := 45) dX9_readPointing_45 zf_X9_138 e44 (by decide) ?_
    refine x_if_ne (pc := 48) dX9_readPointing_48 (t := 58) rfl (fun c45 => ?_) (fun c45 => ?_)
    · rw [if_neg c45] at h
      obtain rfl := s1 h
      exact x_vret (pc := 58) dX9_readPointing_58 rfl
    · rw [if_pos c45] at h
      refine x_aload_n (pc := 51) dX9_readPointing_51 rfl rfl hl0 ?_
      obtain ⟨v46, e47, h⟩ := ob h
      refine y_getR (pc := 52) dX9_readPointing_52 zf_X9_57 e47 ?_
      refine x_iload_n (pc := 55) dX9_readPointing_55 rfl rfl ?_
      refine x_iconst (pc := 56) dX9_readPointing_56 (v := 1) rfl ?_
      obtain ⟨M48, e49, h⟩ := ob h
      refine y_zast (pc := 57) dX9_readPointing_57 e49 ?_
      obtain rfl := s1 h
      exact x_vret (pc := 58) dX9_readPointing_58 rfl
  · rw [if_pos c10] at h
    refine x_aload_n (pc := 22) dX9_readPointing_22 rfl rfl hl0 ?_
    obtain ⟨v11, e12, h⟩ := ob h
    refine y_getR (pc := 23) dX9_readPointing_23 zf_X9_57 e12 ?_
    refine x_iload_n (pc := 26) dX9_readPointing_26 rfl rfl ?_
    obtain ⟨v13, e14, h⟩ := ob h
    refine y_zald (pc := 27) dX9_readPointing_27 e14 ?_
    refine x_if_eq (pc := 28) dX9_readPointing_28 (t := 40) rfl (fun c15 => ?_) (fun c15 => ?_)
    · rw [if_pos c15] at h
      refine x_aload_n (pc := 40) dX9_readPointing_40 rfl rfl hl0 ?_
      obtain ⟨g25, h⟩ := bt h
      obtain ⟨M16, e17, h⟩ := ob h
      refine x_callV (av := []) (st := []) (pc := 41) dX9_readPointing_41 (E_X9_end (d := d + 1) e17) rfl (Nat.le_of_ble_eq_true rfl) zc_X9_end rfl zm_X9_169 zi_X9_end zs_X9_end (zac_ok g25) (by decide) rfl rfl (zst_ok rfl (Nat.le_of_ble_eq_true rfl)) rfl ?_
      refine x_aload_n (pc := 44) dX9_readPointing_44 rfl rfl hl0 ?_
      obtain ⟨v18, e19, h⟩ := ob h
      refine y_getI (pc := 45) dX9_readPointing_45 zf_X9_138 e19 (by decide) ?_
      refine x_if_ne (pc := 48) dX9_readPointing_48 (t := 58) rfl (fun c20 => ?_) (fun c20 => ?_)
      · rw [if_neg c20] at h
        obtain rfl := s1 h
        exact x_vret (pc := 58) dX9_readPointing_58 rfl
      · rw [if_pos c20] at h
        refine x_aload_n (pc := 51) dX9_readPointing_51 rfl rfl hl0 ?_
        obtain ⟨v21, e22, h⟩ := ob h
        refine y_getR (pc := 52) dX9_readPointing_52 zf_X9_57 e22 ?_
        refine x_iload_n (pc := 55) dX9_readPointing_55 rfl rfl ?_
        refine x_iconst (pc := 56) dX9_readPointing_56 (v := 1) rfl ?_
        obtain ⟨M23, e24, h⟩ := ob h
        refine y_zast (pc := 57) dX9_readPointing_57 e24 ?_
        obtain rfl := s1 h
        exact x_vret (pc := 58) dX9_readPointing_58 rfl
    · rw [if_neg c15] at h
      refine x_aload_n (pc := 31) dX9_readPointing_31 rfl rfl hl0 ?_
      refine x_iconst (pc := 32) dX9_readPointing_32 (v := 4) rfl ?_
      refine x_aload_n (pc := 33) dX9_readPointing_33 rfl rfl hl0 ?_
      obtain ⟨v26, e27, h⟩ := ob h
      refine y_getI (pc := 34) dX9_readPointing_34 zf_X9_159 e27 (by decide) ?_
      obtain ⟨g40, h⟩ := bt h
      obtain ⟨M28, e29, h⟩ := ob h
      refine x_callV (av := [.int 4, .int v26]) (st := []) (pc := 37) dX9_readPointing_37 (E_X9_bad (d := d + 2) e29) rfl (Nat.le_of_ble_eq_true rfl) zc_X9_bad rfl zm_X9_155 zi_X9_bad zs_X9_bad (zac_ok g40) (by decide) rfl rfl (zst_ok rfl (Nat.le_of_ble_eq_true rfl)) rfl ?_
      refine x_aload_n (pc := 40) dX9_readPointing_40 rfl rfl hl0 ?_
      obtain ⟨g39, h⟩ := bt h
      obtain ⟨M30, e31, h⟩ := ob h
      refine x_callV (av := []) (st := []) (pc := 41) dX9_readPointing_41 (E_X9_end (d := d + 1) e31) rfl (Nat.le_of_ble_eq_true rfl) zc_X9_end rfl zm_X9_169 zi_X9_end zs_X9_end (zac_ok g39) (by decide) rfl rfl (zst_ok rfl (Nat.le_of_ble_eq_true rfl)) rfl ?_
      refine x_aload_n (pc := 44) dX9_readPointing_44 rfl rfl hl0 ?_
      obtain ⟨v32, e33, h⟩ := ob h
      refine y_getI (pc := 45) dX9_readPointing_45 zf_X9_138 e33 (by decide) ?_
      refine x_if_ne (pc := 48) dX9_readPointing_48 (t := 58) rfl (fun c34 => ?_) (fun c34 => ?_)
      · rw [if_neg c34] at h
        obtain rfl := s1 h
        exact x_vret (pc := 58) dX9_readPointing_58 rfl
      · rw [if_pos c34] at h
        refine x_aload_n (pc := 51) dX9_readPointing_51 rfl rfl hl0 ?_
        obtain ⟨v35, e36, h⟩ := ob h
        refine y_getR (pc := 52) dX9_readPointing_52 zf_X9_57 e36 ?_
        refine x_iload_n (pc := 55) dX9_readPointing_55 rfl rfl ?_
        refine x_iconst (pc := 56) dX9_readPointing_56 (v := 1) rfl ?_
        obtain ⟨M37, e38, h⟩ := ob h
        refine y_zast (pc := 57) dX9_readPointing_57 e38 ?_
        obtain rfl := s1 h
        exact x_vret (pc := 58) dX9_readPointing_58 rfl
def f_X9_readPerson (l0 : Nat) (M : zM) : Option (zM) := bif Nat.ble 1 l0 then ((oI M l0 9 58 23).bind fun v1 => if v1 = 5 then ((oI M l0 9 58 17).bind fun v4 => bif zac M l0 9 58 then ((f_X9_bad l0 3 v4 M).bind fun M6 => (oI M6 l0 9 58 17).bind fun v8 => (pI M6 l0 9 58 17 (v8 + 1)).bind fun M10 => bif zac M10 l0 9 58 then (b2 (f_X9_number l0 0 1 M10) fun r12 M13 => bif zac M13 l0 9 58 then ((f_X9_end l0 M13).bind fun M15 => (oI M15 l0 9 58 18).bind fun v17 => if v17 = 0 then ((oR M15 l0 9 58 31).bind fun v20 => (oI M15 l0 9 58 23).bind fun v22 => if r12 = 1 then ((sZ M15 v20 v22 1).bind fun M25 => (oI M25 l0 9 58 23).bind fun v27 => (pI M25 l0 9 58 23 (v27 + 1)).bind fun M29 => some M29) else ((sZ M15 v20 v22 0).bind fun M31 => (oI M31 l0 9 58 23).bind fun v33 => (pI M31 l0 9 58 23 (v33 + 1)).bind fun M35 => some M35)) else (some M15)) else none) else none) else none) else ((oI M l0 9 58 17).bind fun v40 => (pI M l0 9 58 17 (v40 + 1)).bind fun M42 => bif zac M42 l0 9 58 then (b2 (f_X9_number l0 0 1 M42) fun r44 M45 => bif zac M45 l0 9 58 then ((f_X9_end l0 M45).bind fun M47 => (oI M47 l0 9 58 18).bind fun v49 => if v49 = 0 then ((oR M47 l0 9 58 31).bind fun v52 => (oI M47 l0 9 58 23).bind fun v54 => if r44 = 1 then ((sZ M47 v52 v54 1).bind fun M57 => (oI M57 l0 9 58 23).bind fun v59 => (pI M57 l0 9 58 23 (v59 + 1)).bind fun M61 => some M61) else ((sZ M47 v52 v54 0).bind fun M63 => (oI M63 l0 9 58 23).bind fun v65 => (pI M63 l0 9 58 23 (v65 + 1)).bind fun M67 => some M67)) else (some M47)) else none) else none)) else none
theorem E_X9_readPerson {G : zG} {d : Nat} {l0 : Nat} {M MR : zM} (h : f_X9_readPerson l0 M = some MR) : Ex G (d + 2) yX9_readPerson cX9_readPerson 2 none 0 (zent0 [.ref l0] 2) [] M (none, MR) := by
  unfold f_X9_readPerson at h
  obtain ⟨zz0, h⟩ := bt h
  have hl0 := bz zz0
  show Ex _ _ _ _ _ _ 0 [.ref l0, .null] [] _ _
  refine x_aload_n (pc := 0) dX9_readPerson_0 rfl rfl hl0 ?_
  obtain ⟨v1, e2, h⟩ := ob h
  refine y_getI (pc := 1) dX9_readPerson_1 zf_X9_182 e2 (by decide) ?_
  refine x_iconst (pc := 4) dX9_readPerson_4 (v := 5) rfl ?_
  refine x_icmp_ne (pc := 5) dX9_readPerson_5 (t := 17) rfl (fun c3 => ?_) (fun c3 => ?_)
  · rw [if_neg c3] at h
    refine x_aload_n (pc := 17) dX9_readPerson_17 rfl rfl hl0 ?_
    refine x_dup (pc := 18) dX9_readPerson_18 rv_cr ?_
    obtain ⟨v40, e41, h⟩ := ob h
    refine y_getI (pc := 19) dX9_readPerson_19 zf_X9_144 e41 (by decide) ?_
    refine x_iconst (pc := 22) dX9_readPerson_22 (v := 1) rfl ?_
    refine x_iadd (pc := 23) dX9_readPerson_23 ?_
    obtain ⟨M42, e43, h⟩ := ob h
    refine y_putI (pc := 24) dX9_readPerson_24 zf_X9_144 e43 ?_
    refine x_aload_n (pc := 27) dX9_readPerson_27 rfl rfl hl0 ?_
    refine x_iconst (pc := 28) dX9_readPerson_28 (v := 0) rfl ?_
    refine x_iconst (pc := 29) dX9_readPerson_29 (v := 1) rfl ?_
    obtain ⟨g70, h⟩ := bt h
    obtain ⟨r44, M45, e46, h⟩ := ob2 h
    refine x_callV (av := [.int 0, .int 1]) (st := []) (pc := 30) dX9_readPerson_30 (E_X9_number (d := d) e46) rfl (Nat.le_of_ble_eq_true rfl) zc_X9_number rfl zm_X9_165 zi_X9_number zs_X9_number (zac_ok g70) (by decide) rfl rfl (zst_ok rfl (Nat.le_of_ble_eq_true rfl)) rfl ?_
    refine x_istore_n (pc := 33) dX9_readPerson_33 rfl (by decide) rfl ?_
    refine x_aload_n (pc := 34) dX9_readPerson_34 rfl rfl hl0 ?_
    obtain ⟨g69, h⟩ := bt h
    obtain ⟨M47, e48, h⟩ := ob h
    refine x_callV (av := []) (st := []) (pc := 35) dX9_readPerson_35 (E_X9_end (d := d) e48) rfl (Nat.le_of_ble_eq_true rfl) zc_X9_end rfl zm_X9_169 zi_X9_end zs_X9_end (zac_ok g69) (by decide) rfl rfl (zst_ok rfl (Nat.le_of_ble_eq_true rfl)) rfl ?_
    refine x_aload_n (pc := 38) dX9_readPerson_38 rfl rfl hl0 ?_
    obtain ⟨v49, e50, h⟩ := ob h
    refine y_getI (pc := 39) dX9_readPerson_39 zf_X9_138 e50 (by decide) ?_
    refine x_if_ne (pc := 42) dX9_readPerson_42 (t := 74) rfl (fun c51 => ?_) (fun c51 => ?_)
    · rw [if_neg c51] at h
      obtain rfl := s1 h
      exact x_vret (pc := 74) dX9_readPerson_74 rfl
    · rw [if_pos c51] at h
      refine x_aload_n (pc := 45) dX9_readPerson_45 rfl rfl hl0 ?_
      obtain ⟨v52, e53, h⟩ := ob h
      refine y_getR (pc := 46) dX9_readPerson_46 zf_X9_60 e53 ?_
      refine x_aload_n (pc := 49) dX9_readPerson_49 rfl rfl hl0 ?_
      obtain ⟨v54, e55, h⟩ := ob h
      refine y_getI (pc := 50) dX9_readPerson_50 zf_X9_182 e55 (by decide) ?_
      refine x_iload_n (pc := 53) dX9_readPerson_53 rfl rfl ?_
      refine x_iconst (pc := 54) dX9_readPerson_54 (v := 1) rfl ?_
      refine x_icmp_ne (pc := 55) dX9_readPerson_55 (t := 62) rfl (fun c56 => ?_) (fun c56 => ?_)
      · rw [if_neg c56] at h
        refine x_iconst (pc := 62) dX9_readPerson_62 (v := 0) rfl ?_
        obtain ⟨M63, e64, h⟩ := ob h
        refine y_zast (pc := 63) dX9_readPerson_63 e64 ?_
        refine x_aload_n (pc := 64) dX9_readPerson_64 rfl rfl hl0 ?_
        refine x_dup (pc := 65) dX9_readPerson_65 rv_cr ?_
        obtain ⟨v65, e66, h⟩ := ob h
        refine y_getI (pc := 66) dX9_readPerson_66 zf_X9_182 e66 (by decide) ?_
        refine x_iconst (pc := 69) dX9_readPerson_69 (v := 1) rfl ?_
        refine x_iadd (pc := 70) dX9_readPerson_70 ?_
        obtain ⟨M67, e68, h⟩ := ob h
        refine y_putI (pc := 71) dX9_readPerson_71 zf_X9_182 e68 ?_
        obtain rfl := s1 h
        exact x_vret (pc := 74) dX9_readPerson_74 rfl
      · rw [if_pos c56] at h
        refine x_iconst (pc := 58) dX9_readPerson_58 (v := 1) rfl ?_
        refine x_goto (pc := 59) dX9_readPerson_59 (t := 63) rfl ?_
        obtain ⟨M57, e58, h⟩ := ob h
        refine y_zast (pc := 63) dX9_readPerson_63 e58 ?_
        refine x_aload_n (pc := 64) dX9_readPerson_64 rfl rfl hl0 ?_
        refine x_dup (pc := 65) dX9_readPerson_65 rv_cr ?_
        obtain ⟨v59, e60, h⟩ := ob h
        refine y_getI (pc := 66) dX9_readPerson_66 zf_X9_182 e60 (by decide) ?_
        refine x_iconst (pc := 69) dX9_readPerson_69 (v := 1) rfl ?_
        refine x_iadd (pc := 70) dX9_readPerson_70 ?_
        obtain ⟨M61, e62, h⟩ := ob h
        refine y_putI (pc := 71) dX9_readPerson_71 zf_X9_182 e62 ?_
        obtain rfl := s1 h
        exact x_vret (pc := 74) dX9_readPerson_74 rfl
  · rw [if_pos c3] at h
    refine x_aload_n (pc := 8) dX9_readPerson_8 rfl rfl hl0 ?_
    refine x_iconst (pc := 9) dX9_readPerson_9 (v := 3) rfl ?_
    refine x_aload_n (pc := 10) dX9_readPerson_10 rfl rfl hl0 ?_
    obtain ⟨v4, e5, h⟩ := ob h
    refine y_getI (pc := 11) dX9_readPerson_11 zf_X9_144 e5 (by decide) ?_
    obtain ⟨g39, h⟩ := bt h
    obtain ⟨M6, e7, h⟩ := ob h
    refine x_callV (av := [.int 3, .int v4]) (st := []) (pc := 14) dX9_readPerson_14 (E_X9_bad (d := d + 1) e7) rfl (Nat.le_of_ble_eq_true rfl) zc_X9_bad rfl zm_X9_155 zi_X9_bad zs_X9_bad (zac_ok g39) (by decide) rfl rfl (zst_ok rfl (Nat.le_of_ble_eq_true rfl)) rfl ?_
    refine x_aload_n (pc := 17) dX9_readPerson_17 rfl rfl hl0 ?_
    refine x_dup (pc := 18) dX9_readPerson_18 rv_cr ?_
    obtain ⟨v8, e9, h⟩ := ob h
    refine y_getI (pc := 19) dX9_readPerson_19 zf_X9_144 e9 (by decide) ?_
    refine x_iconst (pc := 22) dX9_readPerson_22 (v := 1) rfl ?_
    refine x_iadd (pc := 23) dX9_readPerson_23 ?_
    obtain ⟨M10, e11, h⟩ := ob h
    refine y_putI (pc := 24) dX9_readPerson_24 zf_X9_144 e11 ?_
    refine x_aload_n (pc := 27) dX9_readPerson_27 rfl rfl hl0 ?_
    refine x_iconst (pc := 28) dX9_readPerson_28 (v := 0) rfl ?_
    refine x_iconst (pc := 29) dX9_readPerson_29 (v := 1) rfl ?_
    obtain ⟨g38, h⟩ := bt h
    obtain ⟨r12, M13, e14, h⟩ := ob2 h
    refine x_callV (av := [.int 0, .int 1]) (st := []) (pc := 30) dX9_readPerson_30 (E_X9_number (d := d) e14) rfl (Nat.le_of_ble_eq_true rfl) zc_X9_number rfl zm_X9_165 zi_X9_number zs_X9_number (zac_ok g38) (by decide) rfl rfl (zst_ok rfl (Nat.le_of_ble_eq_true rfl)) rfl ?_
    refine x_istore_n (pc := 33) dX9_readPerson_33 rfl (by decide) rfl ?_
    refine x_aload_n (pc := 34) dX9_readPerson_34 rfl rfl hl0 ?_
    obtain ⟨g37, h⟩ := bt h
    obtain ⟨M15, e16, h⟩ := ob h
    refine x_callV (av := []) (st := []) (pc := 35) dX9_readPerson_35 (E_X9_end (d := d) e16) rfl (Nat.le_of_ble_eq_true rfl) zc_X9_end rfl zm_X9_169 zi_X9_end zs_X9_end (zac_ok g37) (by decide) rfl rfl (zst_ok rfl (Nat.le_of_ble_eq_true rfl)) rfl ?_
    refine x_aload_n (pc := 38) dX9_readPerson_38 rfl rfl hl0 ?_
    obtain ⟨v17, e18, h⟩ := ob h
    refine y_getI (pc := 39) dX9_readPerson_39 zf_X9_138 e18 (by decide) ?_
    refine x_if_ne (pc := 42) dX9_readPerson_42 (t := 74) rfl (fun c19 => ?_) (fun c19 => ?_)
    · rw [if_neg c19] at h
      obtain rfl := s1 h
      exact x_vret (pc := 74) dX9_readPerson_74 rfl
    · rw [if_pos c19] at h
      refine x_aload_n (pc := 45) dX9_readPerson_45 rfl rfl hl0 ?_
      obtain ⟨v20, e21, h⟩ := ob h
      refine y_getR (pc := 46) dX9_readPerson_46 zf_X9_60 e21 ?_
      refine x_aload_n (pc := 49) dX9_readPerson_49 rfl rfl hl0 ?_
      obtain ⟨v22, e23, h⟩ := ob h
      refine y_getI (pc := 50) dX9_readPerson_50 zf_X9_182 e23 (by decide) ?_
      refine x_iload_n (pc := 53) dX9_readPerson_53 rfl rfl ?_
      refine x_iconst (pc := 54) dX9_readPerson_54 (v := 1) rfl ?_
      refine x_icmp_ne (pc := 55) dX9_readPerson_55 (t := 62) rfl (fun c24 => ?_) (fun c24 => ?_)
      · rw [if_neg c24] at h
        refine x_iconst (pc := 62) dX9_readPerson_62 (v := 0) rfl ?_
        obtain ⟨M31, e32, h⟩ := ob h
        refine y_zast (pc := 63) dX9_readPerson_63 e32 ?_
        refine x_aload_n (pc := 64) dX9_readPerson_64 rfl rfl hl0 ?_
        refine x_dup (pc := 65) dX9_readPerson_65 rv_cr ?_
        obtain ⟨v33, e34, h⟩ := ob h
        refine y_getI (pc := 66) dX9_readPerson_66 zf_X9_182 e34 (by decide) ?_
        refine x_iconst (pc := 69) dX9_readPerson_69 (v := 1) rfl ?_
        refine x_iadd (pc := 70) dX9_readPerson_70 ?_
        obtain ⟨M35, e36, h⟩ := ob h
        refine y_putI (pc := 71) dX9_readPerson_71 zf_X9_182 e36 ?_
        obtain rfl := s1 h
        exact x_vret (pc := 74) dX9_readPerson_74 rfl
      · rw [if_pos c24] at h
        refine x_iconst (pc := 58) dX9_readPerson_58 (v := 1) rfl ?_
        refine x_goto (pc := 59) dX9_readPerson_59 (t := 63) rfl ?_
        obtain ⟨M25, e26, h⟩ := ob h
        refine y_zast (pc := 63) dX9_readPerson_63 e26 ?_
        refine x_aload_n (pc := 64) dX9_readPerson_64 rfl rfl hl0 ?_
        refine x_dup (pc := 65) dX9_readPerson_65 rv_cr ?_
        obtain ⟨v27, e28, h⟩ := ob h
        refine y_getI (pc := 66) dX9_readPerson_66 zf_X9_182 e28 (by decide) ?_
        refine x_iconst (pc := 69) dX9_readPerson_69 (v := 1) rfl ?_
        refine x_iadd (pc := 70) dX9_readPerson_70 ?_
        obtain ⟨M29, e30, h⟩ := ob h
        refine y_putI (pc := 71) dX9_readPerson_71 zf_X9_182 e30 ?_
        obtain rfl := s1 h
        exact x_vret (pc := 74) dX9_readPerson_74 rfl
def f_X9_readNeed (l0 : Nat) (M : zM) : Option (zM) := bif Nat.ble 1 l0 then ((oI M l0 9 58 24).bind fun v1 => if v1 = 8 then ((oI M l0 9 58 17).bind fun v4 => bif zac M l0 9 58 then ((f_X9_bad l0 3 v4 M).bind fun M6 => (oI M6 l0 9 58 17).bind fun v8 => (pI M6 l0 9 58 17 (v8 + 1)).bind fun M10 => (oI M10 l0 9 58 23).bind fun v12 => bif zac M10 l0 9 58 then (b2 (f_X9_number l0 0 (v12 - 1) M10) fun r14 M15 => (oI M15 l0 9 58 22).bind fun v17 => bif zac M15 l0 9 58 then (b2 (f_X9_number l0 0 (v17 - 1) M15) fun r19 M20 => (oI M20 l0 9 58 21).bind fun v22 => bif zac M20 l0 9 58 then (b2 (f_X9_number l0 0 (v22 - 1) M20) fun r24 M25 => bif zac M25 l0 9 58 then (b2 (f_X9_number l0 0 99 M25) fun r27 M28 => bif zac M28 l0 9 58 then ((f_X9_end l0 M28).bind fun M30 => (oI M30 l0 9 58 18).bind fun v32 => if v32 = 0 then ((oR M30 l0 9 58 32).bind fun v35 => (oI M30 l0 9 58 24).bind fun v37 => (sI M30 v35 (4 * v37) r14).bind fun M39 => (oR M39 l0 9 58 32).bind fun v41 => (oI M39 l0 9 58 24).bind fun v43 => (sI M39 v41 ((4 * v43) + 1) r19).bind fun M45 => (oR M45 l0 9 58 32).bind fun v47 => (oI M45 l0 9 58 24).bind fun v49 => (sI M45 v47 ((4 * v49) + 2) r24).bind fun M51 => (oR M51 l0 9 58 32).bind fun v53 => (oI M51 l0 9 58 24).bind fun v55 => (sI M51 v53 ((4 * v55) + 3) r27).bind fun M57 => (oI M57 l0 9 58 24).bind fun v59 => (pI M57 l0 9 58 24 (v59 + 1)).bind fun M61 => some M61) else (some M30)) else none) else none) else none) else none) else none) else none) else ((oI M l0 9 58 17).bind fun v69 => (pI M l0 9 58 17 (v69 + 1)).bind fun M71 => (oI M71 l0 9 58 23).bind fun v73 => bif zac M71 l0 9 58 then (b2 (f_X9_number l0 0 (v73 - 1) M71) fun r75 M76 => (oI M76 l0 9 58 22).bind fun v78 => bif zac M76 l0 9 58 then (b2 (f_X9_number l0 0 (v78 - 1) M76) fun r80 M81 => (oI M81 l0 9 58 21).bind fun v83 => bif zac M81 l0 9 58 then (b2 (f_X9_number l0 0 (v83 - 1) M81) fun r85 M86 => bif zac M86 l0 9 58 then (b2 (f_X9_number l0 0 99 M86) fun r88 M89 => bif zac M89 l0 9 58 then ((f_X9_end l0 M89).bind fun M91 => (oI M91 l0 9 58 18).bind fun v93 => if v93 = 0 then ((oR M91 l0 9 58 32).bind fun v96 => (oI M91 l0 9 58 24).bind fun v98 => (sI M91 v96 (4 * v98) r75).bind fun M100 => (oR M100 l0 9 58 32).bind fun v102 => (oI M100 l0 9 58 24).bind fun v104 => (sI M100 v102 ((4 * v104) + 1) r80).bind fun M106 => (oR M106 l0 9 58 32).bind fun v108 => (oI M106 l0 9 58 24).bind fun v110 => (sI M106 v108 ((4 * v110) + 2) r85).bind fun M112 => (oR M112 l0 9 58 32).bind fun v114 => (oI M112 l0 9 58 24).bind fun v116 => (sI M112 v114 ((4 * v116) + 3) r88).bind fun M118 => (oI M118 l0 9 58 24).bind fun v120 => (pI M118 l0 9 58 24 (v120 + 1)).bind fun M122 => some M122) else (some M91)) else none) else none) else none) else none) else none)) else none
set_option maxRecDepth 100000 in
set_option maxHeartbeats 2000000 in
theorem E_X9_readNeed {G : zG} {d : Nat} {l0 : Nat} {M MR : zM} (h : f_X9_readNeed l0 M = some MR) : Ex G (d + 2) yX9_readNeed cX9_readNeed 5 none 0 (zent0 [.ref l0] 5) [] M (none, MR) := by
  unfold f_X9_readNeed at h
  obtain ⟨zz0, h⟩ := bt h
  have hl0 := bz zz0
  show Ex _ _ _ _ _ _ 0 [.ref l0, .null, .null, .null, .null] [] _ _
  refine x_aload_n (pc := 0) dX9_readNeed_0 rfl rfl hl0 ?_
  obtain ⟨v1, e2, h⟩ := ob h
  refine y_getI (pc := 1) dX9_readNeed_1 zf_X9_185 e2 (by decide) ?_
  refine x_bipush (pc := 4) dX9_readNeed_4 (v := 8) (by decide) ?_
  refine x_icmp_ne (pc := 6) dX9_readNeed_6 (t := 18) rfl (fun c3 => ?_) (fun c3 => ?_)
  · rw [if_neg c3] at h
    refine x_aload_n (pc := 18) dX9_readNeed_18 rfl rfl hl0 ?_
    refine x_dup (pc := 19) dX9_readNeed_19 rv_cr ?_
    obtain ⟨v69, e70, h⟩ := ob h
    refine y_getI (pc := 20) dX9_readNeed_20 zf_X9_144 e70 (by decide) ?_
    refine x_iconst (pc := 23) dX9_readNeed_23 (v := 1) rfl ?_
    refine x_iadd (pc := 24) dX9_readNeed_24 ?_
    obtain ⟨M71, e72, h⟩ := ob h
    refine y_putI (pc := 25) dX9_readNeed_25 zf_X9_144 e72 ?_
    refine x_aload_n (pc := 28) dX9_readNeed_28 rfl rfl hl0 ?_
    refine x_iconst (pc := 29) dX9_readNeed_29 (v := 0) rfl ?_
    refine x_aload_n (pc := 30) dX9_readNeed_30 rfl rfl hl0 ?_
    obtain ⟨v73, e74, h⟩ := ob h
    refine y_getI (pc := 31) dX9_readNeed_31 zf_X9_182 e74 (by decide) ?_
    refine x_iconst (pc := 34) dX9_readNeed_34 (v := 1) rfl ?_
    refine x_isub (pc := 35) dX9_readNeed_35 ?_
    obtain ⟨g128, h⟩ := bt h
    obtain ⟨r75, M76, e77, h⟩ := ob2 h
    refine x_callV (av := [.int 0, .int (v73 - 1)]) (st := []) (pc := 36) dX9_readNeed_36 (E_X9_number (d := d) e77) rfl (Nat.le_of_ble_eq_true rfl) zc_X9_number rfl zm_X9_165 zi_X9_number zs_X9_number (zac_ok g128) (by decide) rfl rfl (zst_ok rfl (Nat.le_of_ble_eq_true rfl)) rfl ?_
    refine x_istore_n (pc := 39) dX9_readNeed_39 rfl (by decide) rfl ?_
    refine x_aload_n (pc := 40) dX9_readNeed_40 rfl rfl hl0 ?_
    refine x_iconst (pc := 41) dX9_readNeed_41 (v := 0) rfl ?_
    refine x_aload_n (pc := 42) dX9_readNeed_42 rfl rfl hl0 ?_
    obtain ⟨v78, e79, h⟩ := ob h
    refine y_getI (pc := 43) dX9_readNeed_43 zf_X9_162 e79 (by decide) ?_
    refine x_iconst (pc := 46) dX9_readNeed_46 (v := 1) rfl ?_
    refine x_isub (pc := 47) dX9_readNeed_47 ?_
    obtain ⟨g127, h⟩ := bt h
    obtain ⟨r80, M81, e82, h⟩ := ob2 h
    refine x_callV (av := [.int 0, .int (v78 - 1)]) (st := []) (pc := 48) dX9_readNeed_48 (E_X9_number (d := d) e82) rfl (Nat.le_of_ble_eq_true rfl) zc_X9_number rfl zm_X9_165 zi_X9_number zs_X9_number (zac_ok g127) (by decide) rfl rfl (zst_ok rfl (Nat.le_of_ble_eq_true rfl)) rfl ?_
    refine x_istore_n (pc := 51) dX9_readNeed_51 rfl (by decide) rfl ?_
    refine x_aload_n (pc := 52) dX9_readNeed_52 rfl rfl hl0 ?_
    refine x_iconst (pc := 53) dX9_readNeed_53 (v := 0) rfl ?_
    refine x_aload_n (pc := 54) dX9_readNeed_54 rfl rfl hl0 ?_
    obtain ⟨v83, e84, h⟩ := ob h
    refine y_getI (pc := 55) dX9_readNeed_55 zf_X9_188 e84 (by decide) ?_
    refine x_iconst (pc := 58) dX9_readNeed_58 (v := 1) rfl ?_
    refine x_isub (pc := 59) dX9_readNeed_59 ?_
    obtain ⟨g126, h⟩ := bt h
    obtain ⟨r85, M86, e87, h⟩ := ob2 h
    refine x_callV (av := [.int 0, .int (v83 - 1)]) (st := []) (pc := 60) dX9_readNeed_60 (E_X9_number (d := d) e87) rfl (Nat.le_of_ble_eq_true rfl) zc_X9_number rfl zm_X9_165 zi_X9_number zs_X9_number (zac_ok g126) (by decide) rfl rfl (zst_ok rfl (Nat.le_of_ble_eq_true rfl)) rfl ?_
    refine x_istore_n (pc := 63) dX9_readNeed_63 rfl (by decide) rfl ?_
    refine x_aload_n (pc := 64) dX9_readNeed_64 rfl rfl hl0 ?_
    refine x_iconst (pc := 65) dX9_readNeed_65 (v := 0) rfl ?_
    refine x_bipush (pc := 66) dX9_readNeed_66 (v := 99) (by decide) ?_
    obtain ⟨g125, h⟩ := bt h
    obtain ⟨r88, M89, e90, h⟩ := ob2 h
    refine x_callV (av := [.int 0, .int 99]) (st := []) (pc := 68) dX9_readNeed_68 (E_X9_number (d := d) e90) rfl (Nat.le_of_ble_eq_true rfl) zc_X9_number rfl zm_X9_165 zi_X9_number zs_X9_number (zac_ok g125) (by decide) rfl rfl (zst_ok rfl (Nat.le_of_ble_eq_true rfl)) rfl ?_
    refine x_istore (pc := 71) dX9_readNeed_71 (by decide) rfl ?_
    refine x_aload_n (pc := 73) dX9_readNeed_73 rfl rfl hl0 ?_
    obtain ⟨g124, h⟩ := bt h
    obtain ⟨M91, e92, h⟩ := ob h
    refine x_callV (av := []) (st := []) (pc := 74) dX9_readNeed_74 (E_X9_end (d := d) e92) rfl (Nat.le_of_ble_eq_true rfl) zc_X9_end rfl zm_X9_169 zi_X9_end zs_X9_end (zac_ok g124) (by decide) rfl rfl (zst_ok rfl (Nat.le_of_ble_eq_true rfl)) rfl ?_
    refine x_aload_n (pc := 77) dX9_readNeed_77 rfl rfl hl0 ?_
    obtain ⟨v93, e94, h⟩ := ob h
    refine y_getI (pc := 78) dX9_readNeed_78 zf_X9_138 e94 (by decide) ?_
    refine x_if_ne (pc := 81) dX9_readNeed_81 (t := 149) rfl (fun c95 => ?_) (fun c95 => ?_)
    · rw [if_neg c95] at h
      obtain rfl := s1 h
      exact x_vret (pc := 149) dX9_readNeed_149 rfl
    · rw [if_pos c95] at h
      refine x_aload_n (pc := 84) dX9_readNeed_84 rfl rfl hl0 ?_
      obtain ⟨v96, e97, h⟩ := ob h
      refine y_getR (pc := 85) dX9_readNeed_85 zf_X9_63 e97 ?_
      refine x_iconst (pc := 88) dX9_readNeed_88 (v := 4) rfl ?_
      refine x_aload_n (pc := 89) dX9_readNeed_89 rfl rfl hl0 ?_
      obtain ⟨v98, e99, h⟩ := ob h
      refine y_getI (pc := 90) dX9_readNeed_90 zf_X9_185 e99 (by decide) ?_
      refine x_imul (pc := 93) dX9_readNeed_93 ?_
      refine x_iload_n (pc := 94) dX9_readNeed_94 rfl rfl ?_
      obtain ⟨M100, e101, h⟩ := ob h
      refine y_iast (pc := 95) dX9_readNeed_95 e101 ?_
      refine x_aload_n (pc := 96) dX9_readNeed_96 rfl rfl hl0 ?_
      obtain ⟨v102, e103, h⟩ := ob h
      refine y_getR (pc := 97) dX9_readNeed_97 zf_X9_63 e103 ?_
      refine x_iconst (pc := 100) dX9_readNeed_100 (v := 4) rfl ?_
      refine x_aload_n (pc := 101) dX9_readNeed_101 rfl rfl hl0 ?_
      obtain ⟨v104, e105, h⟩ := ob h
      refine y_getI (pc := 102) dX9_readNeed_102 zf_X9_185 e105 (by decide) ?_
      refine x_imul (pc := 105) dX9_readNeed_105 ?_
      refine x_iconst (pc := 106) dX9_readNeed_106 (v := 1) rfl ?_
      refine x_iadd (pc := 107) dX9_readNeed_107 ?_
      refine x_iload_n (pc := 108) dX9_readNeed_108 rfl rfl ?_
      obtain ⟨M106, e107, h⟩ := ob h
      refine y_iast (pc := 109) dX9_readNeed_109 e107 ?_
      refine x_aload_n (pc := 110) dX9_readNeed_110 rfl rfl hl0 ?_
      obtain ⟨v108, e109, h⟩ := ob h
      refine y_getR (pc := 111) dX9_readNeed_111 zf_X9_63 e109 ?_
      refine x_iconst (pc := 114) dX9_readNeed_114 (v := 4) rfl ?_
      refine x_aload_n (pc := 115) dX9_readNeed_115 rfl rfl hl0 ?_
      obtain ⟨v110, e111, h⟩ := ob h
      refine y_getI (pc := 116) dX9_readNeed_116 zf_X9_185 e111 (by decide) ?_
      refine x_imul (pc := 119) dX9_readNeed_119 ?_
      refine x_iconst (pc := 120) dX9_readNeed_120 (v := 2) rfl ?_
      refine x_iadd (pc := 121) dX9_readNeed_121 ?_
      refine x_iload_n (pc := 122) dX9_readNeed_122 rfl rfl ?_
      obtain ⟨M112, e113, h⟩ := ob h
      refine y_iast (pc := 123) dX9_readNeed_123 e113 ?_
      refine x_aload_n (pc := 124) dX9_readNeed_124 rfl rfl hl0 ?_
      obtain ⟨v114, e115, h⟩ := ob h
      refine y_getR (pc := 125) dX9_readNeed_125 zf_X9_63 e115 ?_
      refine x_iconst (pc := 128) dX9_readNeed_128 (v := 4) rfl ?_
      refine x_aload_n (pc := 129) dX9_readNeed_129 rfl rfl hl0 ?_
      obtain ⟨v116, e117, h⟩ := ob h
      refine y_getI (pc := 130) dX9_readNeed_130 zf_X9_185 e117 (by decide) ?_
      refine x_imul (pc := 133) dX9_readNeed_133 ?_
      refine x_iconst (pc := 134) dX9_readNeed_134 (v := 3) rfl ?_
      refine x_iadd (pc := 135) dX9_readNeed_135 ?_
      refine x_iload (pc := 136) dX9_readNeed_136 rfl ?_
      obtain ⟨M118, e119, h⟩ := ob h
      refine y_iast (pc := 138) dX9_readNeed_138 e119 ?_
      refine x_aload_n (pc := 139) dX9_readNeed_139 rfl rfl hl0 ?_
      refine x_dup (pc := 140) dX9_readNeed_140 rv_cr ?_
      obtain ⟨v120, e121, h⟩ := ob h
      refine y_getI (pc := 141) dX9_readNeed_141 zf_X9_185 e121 (by decide) ?_
      refine x_iconst (pc := 144) dX9_readNeed_144 (v := 1) rfl ?_
      refine x_iadd (pc := 145) dX9_readNeed_145 ?_
      obtain ⟨M122, e123, h⟩ := ob h
      refine y_putI (pc := 146) dX9_readNeed_146 zf_X9_185 e123 ?_
      obtain rfl := s1 h
      exact x_vret (pc := 149) dX9_readNeed_149 rfl
  · rw [if_pos c3] at h
    refine x_aload_n (pc := 9) dX9_readNeed_9 rfl rfl hl0 ?_
    refine x_iconst (pc := 10) dX9_readNeed_10 (v := 3) rfl ?_
    refine x_aload_n (pc := 11) dX9_readNeed_11 rfl rfl hl0 ?_
    obtain ⟨v4, e5, h⟩ := ob h
    refine y_getI (pc := 12) dX9_readNeed_12 zf_X9_144 e5 (by decide) ?_
    obtain ⟨g68, h⟩ := bt h
    obtain ⟨M6, e7, h⟩ := ob h
    refine x_callV (av := [.int 3, .int v4]) (st := []) (pc := 15) dX9_readNeed_15 (E_X9_bad (d := d + 1) e7) rfl (Nat.le_of_ble_eq_true rfl) zc_X9_bad rfl zm_X9_155 zi_X9_bad zs_X9_bad (zac_ok g68) (by decide) rfl rfl (zst_ok rfl (Nat.le_of_ble_eq_true rfl)) rfl ?_
    refine x_aload_n (pc := 18) dX9_readNeed_18 rfl rfl hl0 ?_
    refine x_dup (pc := 19) dX9_readNeed_19 rv_cr ?_
    obtain ⟨v8, e9, h⟩ := ob h
    refine y_getI (pc := 20) dX9_readNeed_20 zf_X9_144 e9 (by decide) ?_
    refine x_iconst (pc := 23) dX9_readNeed_23 (v := 1) rfl ?_
    refine x_iadd (pc := 24) dX9_readNeed_24 ?_
    obtain ⟨M10, e11, h⟩ := ob h
    refine y_putI (pc := 25) dX9_readNeed_25 zf_X9_144 e11 ?_
    refine x_aload_n (pc := 28) dX9_readNeed_28 rfl rfl hl0 ?_
    refine x_iconst (pc := 29) dX9_readNeed_29 (v := 0) rfl ?_
    refine x_aload_n (pc := 30) dX9_readNeed_30 rfl rfl hl0 ?_
    obtain ⟨v12, e13, h⟩ := ob h
    refine y_getI (pc := 31) dX9_readNeed_31 zf_X9_182 e13 (by decide) ?_
    refine x_iconst (pc := 34) dX9_readNeed_34 (v := 1) rfl ?_
    refine x_isub (pc := 35) dX9_readNeed_35 ?_
    obtain ⟨g67, h⟩ := bt h
    obtain ⟨r14, M15, e16, h⟩ := ob2 h
    refine x_callV (av := [.int 0, .int (v12 - 1)]) (st := []) (pc := 36) dX9_readNeed_36 (E_X9_number (d := d) e16) rfl (Nat.le_of_ble_eq_true rfl) zc_X9_number rfl zm_X9_165 zi_X9_number zs_X9_number (zac_ok g67) (by decide) rfl rfl (zst_ok rfl (Nat.le_of_ble_eq_true rfl)) rfl ?_
    refine x_istore_n (pc := 39) dX9_readNeed_39 rfl (by decide) rfl ?_
    refine x_aload_n (pc := 40) dX9_readNeed_40 rfl rfl hl0 ?_
    refine x_iconst (pc := 41) dX9_readNeed_41 (v := 0) rfl ?_
    refine x_aload_n (pc := 42) dX9_readNeed_42 rfl rfl hl0 ?_
    obtain ⟨v17, e18, h⟩ := ob h
    refine y_getI (pc := 43) dX9_readNeed_43 zf_X9_162 e18 (by decide) ?_
    refine x_iconst (pc := 46) dX9_readNeed_46 (v := 1) rfl ?_
    refine x_isub (pc := 47) dX9_readNeed_47 ?_
    obtain ⟨g66, h⟩ := bt h
    obtain ⟨r19, M20, e21, h⟩ := ob2 h
    refine x_callV (av := [.int 0, .int (v17 - 1)]) (st := []) (pc := 48) dX9_readNeed_48 (E_X9_number (d := d) e21) rfl (Nat.le_of_ble_eq_true rfl) zc_X9_number rfl zm_X9_165 zi_X9_number zs_X9_number (zac_ok g66) (by decide) rfl rfl (zst_ok rfl (Nat.le_of_ble_eq_true rfl)) rfl ?_
    refine x_istore_n (pc := 51) dX9_readNeed_51 rfl (by decide) rfl ?_
    refine x_aload_n (pc := 52) dX9_readNeed_52 rfl rfl hl0 ?_
    refine x_iconst (pc := 53) dX9_readNeed_53 (v := 0) rfl ?_
    refine x_aload_n (pc := 54) dX9_readNeed_54 rfl rfl hl0 ?_
    obtain ⟨v22, e23, h⟩ := ob h
    refine y_getI (pc := 55) dX9_readNeed_55 zf_X9_188 e23 (by decide) ?_
    refine x_iconst (pc := 58) dX9_readNeed_58 (v := 1) rfl ?_
    refine x_isub (pc := 59) dX9_readNeed_59 ?_
    obtain ⟨g65, h⟩ := bt h
    obtain ⟨r24, M25, e26, h⟩ := ob2 h
    refine x_callV (av := [.int 0, .int (v22 - 1)]) (st := []) (pc := 60) dX9_readNeed_60 (E_X9_number (d := d) e26) rfl (Nat.le_of_ble_eq_true rfl) zc_X9_number rfl zm_X9_165 zi_X9_number zs_X9_number (zac_ok g65) (by decide) rfl rfl (zst_ok rfl (Nat.le_of_ble_eq_true rfl)) rfl ?_
    refine x_istore_n (pc := 63) dX9_readNeed_63 rfl (by decide) rfl ?_
    refine x_aload_n (pc := 64) dX9_readNeed_64 rfl rfl hl0 ?_
    refine x_iconst (pc := 65) dX9_readNeed_65 (v := 0) rfl ?_
    refine x_bipush (pc := 66) dX9_readNeed_66 (v := 99) (by decide) ?_
    obtain ⟨g64, h⟩ := bt h
    obtain ⟨r27, M28, e29, h⟩ := ob2 h
    refine x_callV (av := [.int 0, .int 99]) (st := []) (pc := 68) dX9_readNeed_68 (E_X9_number (d := d) e29) rfl (Nat.le_of_ble_eq_true rfl) zc_X9_number rfl zm_X9_165 zi_X9_number zs_X9_number (zac_ok g64) (by decide) rfl rfl (zst_ok rfl (Nat.le_of_ble_eq_true rfl)) rfl ?_
    refine x_istore (pc := 71) dX9_readNeed_71 (by decide) rfl ?_
    refine x_aload_n (pc := 73) dX9_readNeed_73 rfl rfl hl0 ?_
    obtain ⟨g63, h⟩ := bt h
    obtain ⟨M30, e31, h⟩ := ob h
    refine x_callV (av := []) (st := []) (pc := 74) dX9_readNeed_74 (E_X9_end (d := d) e31) rfl (Nat.le_of_ble_eq_true rfl) zc_X9_end rfl zm_X9_169 zi_X9_end zs_X9_end (zac_ok g63) (by decide) rfl rfl (zst_ok rfl (Nat.le_of_ble_eq_true rfl)) rfl ?_
    refine x_aload_n (pc := 77) dX9_readNeed_77 rfl rfl hl0 ?_
    obtain ⟨v32, e33, h⟩ := ob h
    refine y_getI (pc := 78) dX9_readNeed_78 zf_X9_138 e33 (by decide) ?_
    refine x_if_ne (pc := 81) dX9_readNeed_81 (t := 149) rfl (fun c34 => ?_) (fun c34 => ?_)
    · rw [if_neg c34] at h
      obtain rfl := s1 h
      exact x_vret (pc := 149) dX9_readNeed_149 rfl
    · rw [if_pos c34] at h
      refine x_aload_n (pc := 84) dX9_readNeed_84 rfl rfl hl0 ?_
      obtain ⟨v35, e36, h⟩ := ob h
      refine y_getR (pc := 85) dX9_readNeed_85 zf_X9_63 e36 ?_
      refine x_iconst (pc := 88) dX9_readNeed_88 (v := 4) rfl ?_
      refine x_aload_n (pc := 89) dX9_readNeed_89 rfl rfl hl0 ?_
      obtain ⟨v37, e38, h⟩ := ob h
      refine y_getI (pc := 90) dX9_readNeed_90 zf_X9_185 e38 (by decide) ?_
      refine x_imul (pc := 93) dX9_readNeed_93 ?_
      refine x_iload_n (pc := 94) dX9_readNeed_94 rfl rfl ?_
      obtain ⟨M39, e40, h⟩ := ob h
      refine y_iast (pc := 95) dX9_readNeed_95 e40 ?_
      refine x_aload_n (pc := 96) dX9_readNeed_96 rfl rfl hl0 ?_
      obtain ⟨v41, e42, h⟩ := ob h
      refine y_getR (pc := 97) dX9_readNeed_97 zf_X9_63 e42 ?_
      refine x_iconst (pc := 100) dX9_readNeed_100 (v := 4) rfl ?_
      refine x_aload_n (pc := 101) dX9_readNeed_101 rfl rfl hl0 ?_
      obtain ⟨v43, e44, h⟩ := ob h
      refine y_getI (pc := 102) dX9_readNeed_102 zf_X9_185 e44 (by decide) ?_
      refine x_imul (pc := 105) dX9_readNeed_105 ?_
      refine x_iconst (pc := 106) dX9_readNeed_106 (v := 1) rfl ?_
      refine x_iadd (pc := 107) dX9_readNeed_107 ?_
      refine x_iload_n (pc := 108) dX9_readNeed_108 rfl rfl ?_
      obtain ⟨M45, e46, h⟩ := ob h
      refine y_iast (pc := 109) dX9_readNeed_109 e46 ?_
      refine x_aload_n (pc := 110) dX9_readNeed_110 rfl rfl hl0 ?_
      obtain ⟨v47, e48, h⟩ := ob h
      refine y_getR (pc := 111) dX9_readNeed_111 zf_X9_63 e48 ?_
      refine x_iconst (pc := 114) dX9_readNeed_114 (v := 4) rfl ?_
      refine x_aload_n (pc := 115) dX9_readNeed_115 rfl rfl hl0 ?_
      obtain ⟨v49, e50, h⟩ := ob h
      refine y_getI (pc := 116) dX9_readNeed_116 zf_X9_185 e50 (by decide) ?_
      refine x_imul (pc := 119) dX9_readNeed_119 ?_
      refine x_iconst (pc := 120) dX9_readNeed_120 (v := 2) rfl ?_
      refine x_iadd (pc := 121) dX9_readNeed_121 ?_
      refine x_iload_n (pc := 122) dX9_readNeed_122 rfl rfl ?_
      obtain ⟨M51, e52, h⟩ := ob h
      refine y_iast (pc := 123) dX9_readNeed_123 e52 ?_
      refine x_aload_n (pc := 124) dX9_readNeed_124 rfl rfl hl0 ?_
      obtain ⟨v53, e54, h⟩ := ob h
      refine y_getR (pc := 125) dX9_readNeed_125 zf_X9_63 e54 ?_
      refine x_iconst (pc := 128) dX9_readNeed_128 (v := 4) rfl ?_
      refine x_aload_n (pc := 129) dX9_readNeed_129 rfl rfl hl0 ?_
      obtain ⟨v55, e56, h⟩ := ob h
      refine y_getI (pc := 130) dX9_readNeed_130 zf_X9_185 e56 (by decide) ?_
      refine x_imul (pc := 133) dX9_readNeed_133 ?_
      refine x_iconst (pc := 134) dX9_readNeed_134 (v := 3) rfl ?_
      refine x_iadd (pc := 135) dX9_readNeed_135 ?_
      refine x_iload (pc := 136) dX9_readNeed_136 rfl ?_
      obtain ⟨M57, e58, h⟩ := ob h
      refine y_iast (pc := 138) dX9_readNeed_138 e58 ?_
      refine x_aload_n (pc := 139) dX9_readNeed_139 rfl rfl hl0 ?_
      refine x_dup (pc := 140) dX9_readNeed_140 rv_cr ?_
      obtain ⟨v59, e60, h⟩ := ob h
      refine y_getI (pc := 141) dX9_readNeed_141 zf_X9_185 e60 (by decide) ?_
      refine x_iconst (pc := 144) dX9_readNeed_144 (v := 1) rfl ?_
      refine x_iadd (pc := 145) dX9_readNeed_145 ?_
      obtain ⟨M61, e62, h⟩ := ob h
      refine y_putI (pc := 146) dX9_readNeed_146 zf_X9_185 e62 ?_
      obtain rfl := s1 h
      exact x_vret (pc := 149) dX9_readNeed_149 rfl
def f_X9_readYear (l0 : Nat) (M : zM) : Option (zM) := bif Nat.ble 1 l0 then ((oI M l0 9 58 17).bind fun v1 => (pI M l0 9 58 17 (v1 + 1)).bind fun M3 => bif zac M3 l0 9 58 then (b2 (f_X9_number l0 1 99 M3) fun r5 M6 => (pI M6 l0 9 58 21 r5).bind fun M8 => bif zac M8 l0 9 58 then ((f_X9_end l0 M8).bind fun M10 => some M10) else none) else none) else none
theorem E_X9_readYear {G : zG} {d : Nat} {l0 : Nat} {M MR : zM} (h : f_X9_readYear l0 M = some MR) : Ex G (d + 2) yX9_readYear cX9_readYear 1 none 0 (zent0 [.ref l0] 1) [] M (none, MR) := by
  unfold f_X9_readYear at h
  obtain ⟨zz0, h⟩ := bt h
  have hl0 := bz zz0
  show Ex _ _ _ _ _ _ 0 [.ref l0] [] _ _
  refine x_aload_n (pc := 0) dX9_readYear_0 rfl rfl hl0 ?_
  refine x_dup (pc := 1) dX9_readYear_1 rv_cr ?_
  obtain ⟨v1, e2, h⟩ := ob h
  refine y_getI (pc := 2) dX9_readYear_2 zf_X9_144 e2 (by decide) ?_
  refine x_iconst (pc := 5) dX9_readYear_5 (v := 1) rfl ?_
  refine x_iadd (pc := 6) dX9_readYear_6 ?_
  obtain ⟨M3, e4, h⟩ := ob h
  refine y_putI (pc := 7) dX9_readYear_7 zf_X9_144 e4 ?_
  refine x_aload_n (pc := 10) dX9_readYear_10 rfl rfl hl0 ?_
  refine x_aload_n (pc := 11) dX9_readYear_11 rfl rfl hl0 ?_
  refine x_iconst (pc := 12) dX9_readYear_12 (v := 1) rfl ?_
  refine x_bipush (pc := 13) dX9_readYear_13 (v := 99) (by decide) ?_
  obtain ⟨g13, h⟩ := bt h
  obtain ⟨r5, M6, e7, h⟩ := ob2 h
  refine x_callV (av := [.int 1, .int 99]) (st := [.ref l0]) (pc := 15) dX9_readYear_15 (E_X9_number (d := d) e7) rfl (Nat.le_of_ble_eq_true rfl) zc_X9_number rfl zm_X9_165 zi_X9_number zs_X9_number (zac_ok g13) (by decide) rfl rfl (zst_ok rfl (Nat.le_of_ble_eq_true rfl)) rfl ?_
  obtain ⟨M8, e9, h⟩ := ob h
  refine y_putI (pc := 18) dX9_readYear_18 zf_X9_188 e9 ?_
  refine x_aload_n (pc := 21) dX9_readYear_21 rfl rfl hl0 ?_
  obtain ⟨g12, h⟩ := bt h
  obtain ⟨M10, e11, h⟩ := ob h
  refine x_callV (av := []) (st := []) (pc := 22) dX9_readYear_22 (E_X9_end (d := d) e11) rfl (Nat.le_of_ble_eq_true rfl) zc_X9_end rfl zm_X9_169 zi_X9_end zs_X9_end (zac_ok g12) (by decide) rfl rfl (zst_ok rfl (Nat.le_of_ble_eq_true rfl)) rfl ?_
  obtain rfl := s1 h
  exact x_vret (pc := 25) dX9_readYear_25 rfl
def f_X9_readClause (l0 : Nat) (l1 : Int32) (M : zM) : Option (zM) := bif Nat.ble 1 l0 then ((oI M l0 9 58 21).bind fun v1 => if v1 = 0 then (if l1 = 121 then (if l1 = 97 then (bif zac M l0 9 58 then ((f_X9_readWay l0 M).bind fun M6 => some M6) else none) else (if l1 = 110 then (bif zac M l0 9 58 then ((f_X9_readNeed l0 M).bind fun M10 => some M10) else none) else (if l1 = 111 then (bif zac M l0 9 58 then ((f_X9_readPointing l0 M).bind fun M14 => some M14) else none) else (if l1 = 112 then (bif zac M l0 9 58 then ((f_X9_readPerson l0 M).bind fun M18 => some M18) else none) else (if l1 = 119 then (bif zac M l0 9 58 then ((f_X9_readWord l0 M).bind fun M22 => some M22) else none) else (if l1 = 121 then ((oI M l0 9 58 21).bind fun v26 => if v26 ≤ 0 then (bif zac M l0 9 58 then ((f_X9_readYear l0 M).bind fun M29 => some M29) else none) else ((oI M l0 9 58 17).bind fun v32 => bif zac M l0 9 58 then ((f_X9_bad l0 3 v32 M).bind fun M34 => bif zac M34 l0 9 58 then ((f_X9_readYear l0 M34).bind fun M36 => some M36) else none) else none)) else ((oI M l0 9 58 17).bind fun v40 => bif zac M l0 9 58 then ((f_X9_bad l0 1 v40 M).bind fun M42 => some M42) else none))))))) else ((oI M l0 9 58 17).bind fun v45 => bif zac M l0 9 58 then ((f_X9_bad l0 1 v45 M).bind fun M47 => some M47) else none)) else (if l1 = 97 then (bif zac M l0 9 58 then ((f_X9_readWay l0 M).bind fun M51 => some M51) else none) else (if l1 = 110 then (bif zac M l0 9 58 then ((f_X9_readNeed l0 M).bind fun M55 => some M55) else none) else (if l1 = 111 then (bif zac M l0 9 58 then ((f_X9_readPointing l0 M).bind fun M59 => some M59) else none) else (if l1 = 112 then (bif zac M l0 9 58 then ((f_X9_readPerson l0 M).bind fun M63 => some M63) else none) else (if l1 = 119 then (bif zac M l0 9 58 then ((f_X9_readWord l0 M).bind fun M67 => some M67) else none) else (if l1 = 121 then ((oI M l0 9 58 21).bind fun v71 => if v71 ≤ 0 then (bif zac M l0 9 58 then ((f_X9_readYear l0 M).bind fun M74 => some M74) else none) else ((oI M l0 9 58 17).bind fun v77 => bif zac M l0 9 58 then ((f_X9_bad l0 3 v77 M).bind fun M79 => bif zac M79 l0 9 58 then ((f_X9_readYear l0 M79).bind fun M81 => some M81) else none) else none)) else ((oI M l0 9 58 17).bind fun v85 => bif zac M l0 9 58 then ((f_X9_bad l0 1 v85 M).bind fun M87 => some M87) else none)))))))) else none
theorem E_X9_readClause {G : zG} {d : Nat} {l0 : Nat} {l1 : Int32} {M MR : zM} (h : f_X9_readClause l0 l1 M = some MR) : Ex G (d + 4) yX9_readClause cX9_readClause 2 none 0 (zent0 [.ref l0, .int l1] 2) [] M (none, MR) := by
  unfold f_X9_readClause at h
  obtain ⟨zz0, h⟩ := bt h
  have hl0 := bz zz0
  show Ex _ _ _ _ _ _ 0 [.ref l0, .int l1] [] _ _
  refine x_aload_n (pc := 0) dX9_readClause_0 rfl rfl hl0 ?_
  obtain ⟨v1, e2, h⟩ := ob h
  refine y_getI (pc := 1) dX9_readClause_1 zf_X9_188 e2 (by decide) ?_
  refine x_if_ne (pc := 4) dX9_readClause_4 (t := 23) rfl (fun c3 => ?_) (fun c3 => ?_)
  · rw [if_neg c3] at h
    refine x_iload_n (pc := 23) dX9_readClause_23 rfl rfl ?_
    by_cases c50 : l1 = 97
    · rw [if_pos c50] at h
      refine y_lookup (pc := 24) dX9_readClause_24 c50 (q := 97) (by decide) (off := 90) (by decide) (t := 114) rfl ?_
      refine x_aload_n (pc := 114) dX9_readClause_114 rfl rfl hl0 ?_
      obtain ⟨g53, h⟩ := bt h
      obtain ⟨M51, e52, h⟩ := ob h
      refine x_callV (av := []) (st := []) (pc := 115) dX9_readClause_115 (E_X9_readWay (d := d) e52) rfl (Nat.le_of_ble_eq_true rfl) zc_X9_readWay rfl zm_X9_197 zi_X9_readWay zs_X9_readWay (zac_ok g53) (by decide) rfl rfl (zst_ok rfl (Nat.le_of_ble_eq_true rfl)) rfl ?_
      refine x_goto (pc := 118) dX9_readClause_118 (t := 151) rfl ?_
      obtain rfl := s1 h
      exact x_vret (pc := 151) dX9_readClause_151 rfl
    · rw [if_neg c50] at h
      by_cases c54 : l1 = 110
      · rw [if_pos c54] at h
        refine y_lookup (pc := 24) dX9_readClause_24 c54 (q := 110) (by decide) (off := 111) (by decide) (t := 135) rfl ?_
        refine x_aload_n (pc := 135) dX9_readClause_135 rfl rfl hl0 ?_
        obtain ⟨g57, h⟩ := bt h
        obtain ⟨M55, e56, h⟩ := ob h
        refine x_callV (av := []) (st := []) (pc := 136) dX9_readClause_136 (E_X9_readNeed (d := d + 1) e56) rfl (Nat.le_of_ble_eq_true rfl) zc_X9_readNeed rfl zm_X9_206 zi_X9_readNeed zs_X9_readNeed (zac_ok g57) (by decide) rfl rfl (zst_ok rfl (Nat.le_of_ble_eq_true rfl)) rfl ?_
        refine x_goto (pc := 139) dX9_readClause_139 (t := 151) rfl ?_
        obtain rfl := s1 h
        exact x_vret (pc := 151) dX9_readClause_151 rfl
      · rw [if_neg c54] at h
        by_cases c58 : l1 = 111
        · rw [if_pos c58] at h
          refine y_lookup (pc := 24) dX9_readClause_24 c58 (q := 111) (by decide) (off := 97) (by decide) (t := 121) rfl ?_
          refine x_aload_n (pc := 121) dX9_readClause_121 rfl rfl hl0 ?_
          obtain ⟨g61, h⟩ := bt h
          obtain ⟨M59, e60, h⟩ := ob h
          refine x_callV (av := []) (st := []) (pc := 122) dX9_readClause_122 (E_X9_readPointing (d := d) e60) rfl (Nat.le_of_ble_eq_true rfl) zc_X9_readPointing rfl zm_X9_200 zi_X9_readPointing zs_X9_readPointing (zac_ok g61) (by decide) rfl rfl (zst_ok rfl (Nat.le_of_ble_eq_true rfl)) rfl ?_
          refine x_goto (pc := 125) dX9_readClause_125 (t := 151) rfl ?_
          obtain rfl := s1 h
          exact x_vret (pc := 151) dX9_readClause_151 rfl
        · rw [if_neg c58] at h
          by_cases c62 : l1 = 112
          · rw [if_pos c62] at h
            refine y_lookup (pc := 24) dX9_readClause_24 c62 (q := 112) (by decide) (off := 104) (by decide) (t := 128) rfl ?_
            refine x_aload_n (pc := 128) dX9_readClause_128 rfl rfl hl0 ?_
            obtain ⟨g65, h⟩ := bt h
            obtain ⟨M63, e64, h⟩ := ob h
            refine x_callV (av := []) (st := []) (pc := 129) dX9_readClause_129 (E_X9_readPerson (d := d + 1) e64) rfl (Nat.le_of_ble_eq_true rfl) zc_X9_readPerson rfl zm_X9_203 zi_X9_readPerson zs_X9_readPerson (zac_ok g65) (by decide) rfl rfl (zst_ok rfl (Nat.le_of_ble_eq_true rfl)) rfl ?_
            refine x_goto (pc := 132) dX9_readClause_132 (t := 151) rfl ?_
            obtain rfl := s1 h
            exact x_vret (pc := 151) dX9_readClause_151 rfl
          · rw [if_neg c62] at h
            by_cases c66 : l1 = 119
            · rw [if_pos c66] at h
              refine y_lookup (pc := 24) dX9_readClause_24 c66 (q := 119) (by decide) (off := 83) (by decide) (t := 107) rfl ?_
              refine x_aload_n (pc := 107) dX9_readClause_107 rfl rfl hl0 ?_
              obtain ⟨g69, h⟩ := bt h
              obtain ⟨M67, e68, h⟩ := ob h
              refine x_callV (av := []) (st := []) (pc := 108) dX9_readClause_108 (E_X9_readWord (d := d + 1) e68) rfl (Nat.le_of_ble_eq_true rfl) zc_X9_readWord rfl zm_X9_194 zi_X9_readWord zs_X9_readWord (zac_ok g69) (by decide) rfl rfl (zst_ok rfl (Nat.le_of_ble_eq_true rfl)) rfl ?_
              refine x_goto (pc := 111) dX9_readClause_111 (t := 151) rfl ?_
              obtain rfl := s1 h
              exact x_vret (pc := 151) dX9_readClause_151 rfl
            · rw [if_neg c66] at h
              by_cases c70 : l1 = 121
              · rw [if_pos c70] at h
                refine y_lookup (pc := 24) dX9_readClause_24 c70 (q := 121) (by decide) (off := 60) (by decide) (t := 84) rfl ?_
                refine x_aload_n (pc := 84) dX9_readClause_84 rfl rfl hl0 ?_
                obtain ⟨v71, e72, h⟩ := ob h
                refine y_getI (pc := 85) dX9_readClause_85 zf_X9_188 e72 (by decide) ?_
                refine x_if_le (pc := 88) dX9_readClause_88 (t := 100) rfl (fun c73 => ?_) (fun c73 => ?_)
                · rw [if_pos c73] at h
                  refine x_aload_n (pc := 100) dX9_readClause_100 rfl rfl hl0 ?_
                  obtain ⟨g76, h⟩ := bt h
                  obtain ⟨M74, e75, h⟩ := ob h
                  refine x_callV (av := []) (st := []) (pc := 101) dX9_readClause_101 (E_X9_readYear (d := d + 1) e75) rfl (Nat.le_of_ble_eq_true rfl) zc_X9_readYear rfl zm_X9_191 zi_X9_readYear zs_X9_readYear (zac_ok g76) (by decide) rfl rfl (zst_ok rfl (Nat.le_of_ble_eq_true rfl)) rfl ?_
                  refine x_goto (pc := 104) dX9_readClause_104 (t := 151) rfl ?_
                  obtain rfl := s1 h
                  exact x_vret (pc := 151) dX9_readClause_151 rfl
                · rw [if_neg c73] at h
                  refine x_aload_n (pc := 91) dX9_readClause_91 rfl rfl hl0 ?_
                  refine x_iconst (pc := 92) dX9_readClause_92 (v := 3) rfl ?_
                  refine x_aload_n (pc := 93) dX9_readClause_93 rfl rfl hl0 ?_
                  obtain ⟨v77, e78, h⟩ := ob h
                  refine y_getI (pc := 94) dX9_readClause_94 zf_X9_144 e78 (by decide) ?_
                  obtain ⟨g84, h⟩ := bt h
                  obtain ⟨M79, e80, h⟩ := ob h
                  refine x_callV (av := [.int 3, .int v77]) (st := []) (pc := 97) dX9_readClause_97 (E_X9_bad (d := d + 3) e80) rfl (Nat.le_of_ble_eq_true rfl) zc_X9_bad rfl zm_X9_155 zi_X9_bad zs_X9_bad (zac_ok g84) (by decide) rfl rfl (zst_ok rfl (Nat.le_of_ble_eq_true rfl)) rfl ?_
                  refine x_aload_n (pc := 100) dX9_readClause_100 rfl rfl hl0 ?_
                  obtain ⟨g83, h⟩ := bt h
                  obtain ⟨M81, e82, h⟩ := ob h
                  refine x_callV (av := []) (st := []) (pc := 101) dX9_readClause_101 (E_X9_readYear (d := d + 1) e82) rfl (Nat.le_of_ble_eq_true rfl) zc_X9_readYear rfl zm_X9_191 zi_X9_readYear zs_X9_readYear (zac_ok g83) (by decide) rfl rfl (zst_ok rfl (Nat.le_of_ble_eq_true rfl)) rfl ?_
                  refine x_goto (pc := 104) dX9_readClause_104 (t := 151) rfl ?_
                  obtain rfl := s1 h
                  exact x_vret (pc := 151) dX9_readClause_151 rfl
              · rw [if_neg c70] at h
                refine x_lookup (pc := 24) dX9_readClause_24 (by decide) (off := 118) ?_ (t := 142) rfl ?_
                · show Op.lookupswitch.offset [(97, 90), (110, 111), (111, 97), (112, 104), (119, 83), (121, 60)] 118 _ = _
                  rw [lv_osw (a := 97) c50 (by decide), lv_osw (a := 110) c54 (by decide), lv_osw (a := 111) c58 (by decide), lv_osw (a := 112) c62 (by decide), lv_osw (a := 119) c66 (by decide), lv_osw (a := 121) c70 (by decide)]
                  rfl
                · refine x_aload_n (pc := 142) dX9_readClause_142 rfl rfl hl0 ?_
                  refine x_iconst (pc := 143) dX9_readClause_143 (v := 1) rfl ?_
                  refine x_aload_n (pc := 144) dX9_readClause_144 rfl rfl hl0 ?_
                  obtain ⟨v85, e86, h⟩ := ob h
                  refine y_getI (pc := 145) dX9_readClause_145 zf_X9_144 e86 (by decide) ?_
                  obtain ⟨g89, h⟩ := bt h
                  obtain ⟨M87, e88, h⟩ := ob h
                  refine x_callV (av := [.int 1, .int v85]) (st := []) (pc := 148) dX9_readClause_148 (E_X9_bad (d := d + 3) e88) rfl (Nat.le_of_ble_eq_true rfl) zc_X9_bad rfl zm_X9_155 zi_X9_bad zs_X9_bad (zac_ok g89) (by decide) rfl rfl (zst_ok rfl (Nat.le_of_ble_eq_true rfl)) rfl ?_
                  obtain rfl := s1 h
                  exact x_vret (pc := 151) dX9_readClause_151 rfl
  · rw [if_pos c3] at h
    refine x_iload_n (pc := 7) dX9_readClause_7 rfl rfl ?_
    refine x_bipush (pc := 8) dX9_readClause_8 (v := 121) (by decide) ?_
    refine x_icmp_eq (pc := 10) dX9_readClause_10 (t := 23) rfl (fun c4 => ?_) (fun c4 => ?_)
    · rw [if_pos c4] at h
      refine x_iload_n (pc := 23) dX9_readClause_23 rfl rfl ?_
      by_cases c5 : l1 = 97
      · rw [if_pos c5] at h
        refine y_lookup (pc := 24) dX9_readClause_24 c5 (q := 97) (by decide) (off := 90) (by decide) (t := 114) rfl ?_
        refine x_aload_n (pc := 114) dX9_readClause_114 rfl rfl hl0 ?_
        obtain ⟨g8, h⟩ := bt h
        obtain ⟨M6, e7, h⟩ := ob h
        refine x_callV (av := []) (st := []) (pc := 115) dX9_readClause_115 (E_X9_readWay (d := d) e7) rfl (Nat.le_of_ble_eq_true rfl) zc_X9_readWay rfl zm_X9_197 zi_X9_readWay zs_X9_readWay (zac_ok g8) (by decide) rfl rfl (zst_ok rfl (Nat.le_of_ble_eq_true rfl)) rfl ?_
        refine x_goto (pc := 118) dX9_readClause_118 (t := 151) rfl ?_
        obtain rfl := s1 h
        exact x_vret (pc := 151) dX9_readClause_151 rfl
      · rw [if_neg c5] at h
        by_cases c9 : l1 = 110
        · rw [if_pos c9] at h
          refine y_lookup (pc := 24) dX9_readClause_24 c9 (q := 110) (by decide) (off := 111) (by decide) (t := 135) rfl ?_
          refine x_aload_n (pc := 135) dX9_readClause_135 rfl rfl hl0 ?_
          obtain ⟨g12, h⟩ := bt h
          obtain ⟨M10, e11, h⟩ := ob h
          refine x_callV (av := []) (st := []) (pc := 136) dX9_readClause_136 (E_X9_readNeed (d := d + 1) e11) rfl (Nat.le_of_ble_eq_true rfl) zc_X9_readNeed rfl zm_X9_206 zi_X9_readNeed zs_X9_readNeed (zac_ok g12) (by decide) rfl rfl (zst_ok rfl (Nat.le_of_ble_eq_true rfl)) rfl ?_
          refine x_goto (pc := 139) dX9_readClause_139 (t := 151) rfl ?_
          obtain rfl := s1 h
          exact x_vret (pc := 151) dX9_readClause_151 rfl
        · rw [if_neg c9] at h
          by_cases c13 : l1 = 111
          · rw [if_pos c13] at h
            refine y_lookup (pc := 24) dX9_readClause_24 c13 (q := 111) (by decide) (off := 97) (by decide) (t := 121) rfl ?_
            refine x_aload_n (pc := 121) dX9_readClause_121 rfl rfl hl0 ?_
            obtain ⟨g16, h⟩ := bt h
            obtain ⟨M14, e15, h⟩ := ob h
            refine x_callV (av := []) (st := []) (pc := 122) dX9_readClause_122 (E_X9_readPointing (d := d) e15) rfl (Nat.le_of_ble_eq_true rfl) zc_X9_readPointing rfl zm_X9_200 zi_X9_readPointing zs_X9_readPointing (zac_ok g16) (by decide) rfl rfl (zst_ok rfl (Nat.le_of_ble_eq_true rfl)) rfl ?_
            refine x_goto (pc := 125) dX9_readClause_125 (t := 151) rfl ?_
            obtain rfl := s1 h
            exact x_vret (pc := 151) dX9_readClause_151 rfl
          · rw [if_neg c13] at h
            by_cases c17 : l1 = 112
            · rw [if_pos c17] at h
              refine y_lookup (pc := 24) dX9_readClause_24 c17 (q := 112) (by decide) (off := 104) (by decide) (t := 128) rfl ?_
              refine x_aload_n (pc := 128) dX9_readClause_128 rfl rfl hl0 ?_
              obtain ⟨g20, h⟩ := bt h
              obtain ⟨M18, e19, h⟩ := ob h
              refine x_callV (av := []) (st := []) (pc := 129) dX9_readClause_129 (E_X9_readPerson (d := d + 1) e19) rfl (Nat.le_of_ble_eq_true rfl) zc_X9_readPerson rfl zm_X9_203 zi_X9_readPerson zs_X9_readPerson (zac_ok g20) (by decide) rfl rfl (zst_ok rfl (Nat.le_of_ble_eq_true rfl)) rfl ?_
              refine x_goto (pc := 132) dX9_readClause_132 (t := 151) rfl ?_
              obtain rfl := s1 h
              exact x_vret (pc := 151) dX9_readClause_151 rfl
            · rw [if_neg c17] at h
              by_cases c21 : l1 = 119
              · rw [if_pos c21] at h
                refine y_lookup (pc := 24) dX9_readClause_24 c21 (q := 119) (by decide) (off := 83) (by decide) (t := 107) rfl ?_
                refine x_aload_n (pc := 107) dX9_readClause_107 rfl rfl hl0 ?_
                obtain ⟨g24, h⟩ := bt h
                obtain ⟨M22, e23, h⟩ := ob h
                refine x_callV (av := []) (st := []) (pc := 108) dX9_readClause_108 (E_X9_readWord (d := d + 1) e23) rfl (Nat.le_of_ble_eq_true rfl) zc_X9_readWord rfl zm_X9_194 zi_X9_readWord zs_X9_readWord (zac_ok g24) (by decide) rfl rfl (zst_ok rfl (Nat.le_of_ble_eq_true rfl)) rfl ?_
                refine x_goto (pc := 111) dX9_readClause_111 (t := 151) rfl ?_
                obtain rfl := s1 h
                exact x_vret (pc := 151) dX9_readClause_151 rfl
              · rw [if_neg c21] at h
                by_cases c25 : l1 = 121
                · rw [if_pos c25] at h
                  refine y_lookup (pc := 24) dX9_readClause_24 c25 (q := 121) (by decide) (off := 60) (by decide) (t := 84) rfl ?_
                  refine x_aload_n (pc := 84) dX9_readClause_84 rfl rfl hl0 ?_
                  obtain ⟨v26, e27, h⟩ := ob h
                  refine y_getI (pc := 85) dX9_readClause_85 zf_X9_188 e27 (by decide) ?_
                  refine x_if_le (pc := 88) dX9_readClause_88 (t := 100) rfl (fun c28 => ?_) (fun c28 => ?_)
                  · rw [if_pos c28] at h
                    refine x_aload_n (pc := 100) dX9_readClause_100 rfl rfl hl0 ?_
                    obtain ⟨g31, h⟩ := bt h
                    obtain ⟨M29, e30, h⟩ := ob h
                    refine x_callV (av := []) (st := []) (pc := 101) dX9_readClause_101 (E_X9_readYear (d := d + 1) e30) rfl (Nat.le_of_ble_eq_true rfl) zc_X9_readYear rfl zm_X9_191 zi_X9_readYear zs_X9_readYear (zac_ok g31) (by decide) rfl rfl (zst_ok rfl (Nat.le_of_ble_eq_true rfl)) rfl ?_
                    refine x_goto (pc := 104) dX9_readClause_104 (t := 151) rfl ?_
                    obtain rfl := s1 h
                    exact x_vret (pc := 151) dX9_readClause_151 rfl
                  · rw [if_neg c28] at h
                    refine x_aload_n (pc := 91) dX9_readClause_91 rfl rfl hl0 ?_
                    refine x_iconst (pc := 92) dX9_readClause_92 (v := 3) rfl ?_
                    refine x_aload_n (pc := 93) dX9_readClause_93 rfl rfl hl0 ?_
                    obtain ⟨v32, e33, h⟩ := ob h
                    refine y_getI (pc := 94) dX9_readClause_94 zf_X9_144 e33 (by decide) ?_
                    obtain ⟨g39, h⟩ := bt h
                    obtain ⟨M34, e35, h⟩ := ob h
                    refine x_callV (av := [.int 3, .int v32]) (st := []) (pc := 97) dX9_readClause_97 (E_X9_bad (d := d + 3) e35) rfl (Nat.le_of_ble_eq_true rfl) zc_X9_bad rfl zm_X9_155 zi_X9_bad zs_X9_bad (zac_ok g39) (by decide) rfl rfl (zst_ok rfl (Nat.le_of_ble_eq_true rfl)) rfl ?_
                    refine x_aload_n (pc := 100) dX9_readClause_100 rfl rfl hl0 ?_
                    obtain ⟨g38, h⟩ := bt h
                    obtain ⟨M36, e37, h⟩ := ob h
                    refine x_callV (av := []) (st := []) (pc := 101) dX9_readClause_101 (E_X9_readYear (d := d + 1) e37) rfl (Nat.le_of_ble_eq_true rfl) zc_X9_readYear rfl zm_X9_191 zi_X9_readYear zs_X9_readYear (zac_ok g38) (by decide) rfl rfl (zst_ok rfl (Nat.le_of_ble_eq_true rfl)) rfl ?_
                    refine x_goto (pc := 104) dX9_readClause_104 (t := 151) rfl ?_
                    obtain rfl := s1 h
                    exact x_vret (pc := 151) dX9_readClause_151 rfl
                · rw [if_neg c25] at h
                  refine x_lookup (pc := 24) dX9_readClause_24 (by decide) (off := 118) ?_ (t := 142) rfl ?_
                  · show Op.lookupswitch.offset [(97, 90), (110, 111), (111, 97), (112, 104), (119, 83), (121, 60)] 118 _ = _
                    rw [lv_osw (a := 97) c5 (by decide), lv_osw (a := 110) c9 (by decide), lv_osw (a := 111) c13 (by decide), lv_osw (a := 112) c17 (by decide), lv_osw (a := 119) c21 (by decide), lv_osw (a := 121) c25 (by decide)]
                    rfl
                  · refine x_aload_n (pc := 142) dX9_readClause_142 rfl rfl hl0 ?_
                    refine x_iconst (pc := 143) dX9_readClause_143 (v := 1) rfl ?_
                    refine x_aload_n (pc := 144) dX9_readClause_144 rfl rfl hl0 ?_
                    obtain ⟨v40, e41, h⟩ := ob h
                    refine y_getI (pc := 145) dX9_readClause_145 zf_X9_144 e41 (by decide) ?_
                    obtain ⟨g44, h⟩ := bt h
                    obtain ⟨M42, e43, h⟩ := ob h
                    refine x_callV (av := [.int 1, .int v40]) (st := []) (pc := 148) dX9_readClause_148 (E_X9_bad (d := d + 3) e43) rfl (Nat.le_of_ble_eq_true rfl) zc_X9_bad rfl zm_X9_155 zi_X9_bad zs_X9_bad (zac_ok g44) (by decide) rfl rfl (zst_ok rfl (Nat.le_of_ble_eq_true rfl)) rfl ?_
                    obtain rfl := s1 h
                    exact x_vret (pc := 151) dX9_readClause_151 rfl
    · rw [if_neg c4] at h
      refine x_aload_n (pc := 13) dX9_readClause_13 rfl rfl hl0 ?_
      refine x_iconst (pc := 14) dX9_readClause_14 (v := 1) rfl ?_
      refine x_aload_n (pc := 15) dX9_readClause_15 rfl rfl hl0 ?_
      obtain ⟨v45, e46, h⟩ := ob h
      refine y_getI (pc := 16) dX9_readClause_16 zf_X9_144 e46 (by decide) ?_
      obtain ⟨g49, h⟩ := bt h
      obtain ⟨M47, e48, h⟩ := ob h
      refine x_callV (av := [.int 1, .int v45]) (st := []) (pc := 19) dX9_readClause_19 (E_X9_bad (d := d + 3) e48) rfl (Nat.le_of_ble_eq_true rfl) zc_X9_bad rfl zm_X9_155 zi_X9_bad zs_X9_bad (zac_ok g49) (by decide) rfl rfl (zst_ok rfl (Nat.le_of_ble_eq_true rfl)) rfl ?_
      obtain rfl := s1 h
      exact x_vret (pc := 22) dX9_readClause_22 rfl
def L_X9_readAll_42 : Nat → Nat → Int32 → zM → Option (zM)
  | 0, _, _, _ => none
  | n + 1, l0, l1, M => if 16 ≤ l1 then (some M) else ((oR M l0 9 58 29).bind fun v18 => (sI M v18 l1 0).bind fun M20 => L_X9_readAll_42 n l0 (l1 + 1) M20)
def L_X9_readAll_63 : Nat → Nat → Int32 → zM → Option (zM)
  | 0, _, _, _ => none
  | n + 1, l0, l1, M => if 8 ≤ l1 then (some M) else ((oR M l0 9 58 30).bind fun v20 => (sZ M v20 l1 0).bind fun M22 => L_X9_readAll_63 n l0 (l1 + 1) M22)
def L_X9_readAll_87 : Nat → Nat → Int32 → zM → Option (zM)
  | 0, _, _, _ => none
  | n + 1, l0, l1, M => if l1 = (-1) then (some M) else (bif zac M l0 9 58 then ((f_X9_readClause l0 l1 M).bind fun M25 => bif zac M25 l0 9 58 then (b2 (f_X9_letterNow l0 M25) fun r27 M28 => L_X9_readAll_87 n l0 r27 M28) else none) else none)
def f_X9_readAll (l0 : Nat) (M : zM) : Option (zM) := bif Nat.ble 1 l0 then ((pI M l0 9 58 17 0).bind fun M1 => (pI M1 l0 9 58 18 0).bind fun M3 => (pI M3 l0 9 58 19 (-1)).bind fun M5 => (pI M5 l0 9 58 21 0).bind fun M7 => (pI M7 l0 9 58 22 0).bind fun M9 => (pI M9 l0 9 58 23 0).bind fun M11 => (pI M11 l0 9 58 24 0).bind fun M13 => (pI M13 l0 9 58 25 0).bind fun M15 => (L_X9_readAll_42 zN l0 0 M15).bind fun M18 => (L_X9_readAll_63 zN l0 0 M18).bind fun M20 => bif zac M20 l0 9 58 then (b2 (f_X9_letterNow l0 M20) fun r21 M22 => (L_X9_readAll_87 zN l0 r21 M22).bind fun M25 => some M25) else none) else none
set_option maxRecDepth 100000 in
set_option maxHeartbeats 2000000 in
theorem LX_X9_readAll_42 {G : zG} {d : Nat} : ∀ (n : Nat) (l0 : Nat) (l1 : Int32) (M : zM) (hl0 : l0 ≠ 0) (MX : zM) {res : Option Value × zM}, L_X9_readAll_42 n l0 l1 M = some MX → Ex G (d + 5) yX9_readAll cX9_readAll 2 none 61 [.ref l0, .null] [] MX res → Ex G (d + 5) yX9_readAll cX9_readAll 2 none 42 [.ref l0, .int l1] [] M res := by
  intro n
  induction n with
  | zero =>
    intro l0 l1 M hl0 MX res h K
    simp [L_X9_readAll_42] at h
  | succ n ih =>
    intro l0 l1 M hl0 MX res h K
    simp only [L_X9_readAll_42] at h
    refine x_iload_n (pc := 42) dX9_readAll_42 rfl rfl ?_
    refine x_bipush (pc := 43) dX9_readAll_43 (v := 16) (by decide) ?_
    refine x_icmp_ge (pc := 45) dX9_readAll_45 (t := 61) rfl (fun c17 => ?_) (fun c17 => ?_)
    · rw [if_pos c17] at h
      obtain rfl := s1 h
      refine ex_weak (Ls2 := [.ref l0, .null]) ⟨Or.inr rfl, Or.inl rfl, trivial⟩ ?_
      exact K
    · rw [if_neg c17] at h
      refine x_aload_n (pc := 48) dX9_readAll_48 rfl rfl hl0 ?_
      obtain ⟨v18, e19, h⟩ := ob h
      refine y_getR (pc := 49) dX9_readAll_49 zf_X9_54 e19 ?_
      refine x_iload_n (pc := 52) dX9_readAll_52 rfl rfl ?_
      refine x_iconst (pc := 53) dX9_readAll_53 (v := 0) rfl ?_
      obtain ⟨M20, e21, h⟩ := ob h
      refine y_iast (pc := 54) dX9_readAll_54 e21 ?_
      refine x_iinc (pc := 55) dX9_readAll_55 rfl rfl (by decide) rfl ?_
      refine x_goto (pc := 58) dX9_readAll_58 (t := 42) rfl ?_
      refine ex_weak (Ls2 := [.ref l0, .int (l1 + 1)]) ⟨Or.inr rfl, Or.inr rfl, trivial⟩ ?_
      exact ih _ _ _ hl0  _ h K
set_option maxRecDepth 100000 in
set_option maxHeartbeats 2000000 in
theorem LX_X9_readAll_63 {G : zG} {d : Nat} : ∀ (n : Nat) (l0 : Nat) (l1 : Int32) (M : zM) (hl0 : l0 ≠ 0) (MX : zM) {res : Option Value × zM}, L_X9_readAll_63 n l0 l1 M = some MX → Ex G (d + 5) yX9_readAll cX9_readAll 2 none 82 [.ref l0, .null] [] MX res → Ex G (d + 5) yX9_readAll cX9_readAll 2 none 63 [.ref l0, .int l1] [] M res := by
  intro n
  induction n with
  | zero =>
    intro l0 l1 M hl0 MX res h K
    simp [L_X9_readAll_63] at h
  | succ n ih =>
    intro l0 l1 M hl0 MX res h K
    simp only [L_X9_readAll_63] at h
    refine x_iload_n (pc := 63) dX9_readAll_63 rfl rfl ?_
    refine x_bipush (pc := 64) dX9_readAll_64 (v := 8) (by decide) ?_
    refine x_icmp_ge (pc := 66) dX9_readAll_66 (t := 82) rfl (fun c19 => ?_) (fun c19 => ?_)
    · rw [if_pos c19] at h
      obtain rfl := s1 h
      refine ex_weak (Ls2 := [.ref l0, .null]) ⟨Or.inr rfl, Or.inl rfl, trivial⟩ ?_
      exact K
    · rw [if_neg c19] at h
      refine x_aload_n (pc := 69) dX9_readAll_69 rfl rfl hl0 ?_
      obtain ⟨v20, e21, h⟩ := ob h
      refine y_getR (pc := 70) dX9_readAll_70 zf_X9_57 e21 ?_
      refine x_iload_n (pc := 73) dX9_readAll_73 rfl rfl ?_
      refine x_iconst (pc := 74) dX9_readAll_74 (v := 0) rfl ?_
      obtain ⟨M22, e23, h⟩ := ob h
      refine y_zast (pc := 75) dX9_readAll_75 e23 ?_
      refine x_iinc (pc := 76) dX9_readAll_76 rfl rfl (by decide) rfl ?_
      refine x_goto (pc := 79) dX9_readAll_79 (t := 63) rfl ?_
      refine ex_weak (Ls2 := [.ref l0, .int (l1 + 1)]) ⟨Or.inr rfl, Or.inr rfl, trivial⟩ ?_
      exact ih _ _ _ hl0  _ h K
set_option maxRecDepth 100000 in
set_option maxHeartbeats 2000000 in
theorem LX_X9_readAll_87 {G : zG} {d : Nat} : ∀ (n : Nat) (l0 : Nat) (l1 : Int32) (M : zM) (hl0 : l0 ≠ 0) (MX : zM) {res : Option Value × zM}, L_X9_readAll_87 n l0 l1 M = some MX → Ex G (d + 5) yX9_readAll cX9_readAll 2 none 105 [.null, .null] [] MX res → Ex G (d + 5) yX9_readAll cX9_readAll 2 none 87 [.ref l0, .int l1] [] M res := by
  intro n
  induction n with
  | zero =>
    intro l0 l1 M hl0 MX res h K
    simp [L_X9_readAll_87] at h
  | succ n ih =>
    intro l0 l1 M hl0 MX res h K
    simp only [L_X9_readAll_87] at h
    refine x_iload_n (pc := 87) dX9_readAll_87 rfl rfl ?_
    refine x_iconst (pc := 88) dX9_readAll_88 (v := (-1)) rfl ?_
    refine x_icmp_eq (pc := 89) dX9_readAll_89 (t := 105) rfl (fun c24 => ?_) (fun c24 => ?_)
    · rw [if_pos c24] at h
      obtain rfl := s1 h
      refine ex_weak (Ls2 := [.null, .null]) ⟨Or.inl rfl, Or.inl rfl, trivial⟩ ?_
      exact K
    · rw [if_neg c24] at h
      refine x_aload_n (pc := 92) dX9_readAll_92 rfl rfl hl0 ?_
      refine x_iload_n (pc := 93) dX9_readAll_93 rfl rfl ?_
      obtain ⟨g31, h⟩ := bt h
      obtain ⟨M25, e26, h⟩ := ob h
      refine x_callV (av := [.int l1]) (st := []) (pc := 94) dX9_readAll_94 (E_X9_readClause (d := d) e26) rfl (Nat.le_of_ble_eq_true rfl) zc_X9_readClause rfl zm_X9_209 zi_X9_readClause zs_X9_readClause (zac_ok g31) (by decide) rfl rfl (zst_ok rfl (Nat.le_of_ble_eq_true rfl)) rfl ?_
      refine x_aload_n (pc := 97) dX9_readAll_97 rfl rfl hl0 ?_
      obtain ⟨g30, h⟩ := bt h
      obtain ⟨r27, M28, e29, h⟩ := ob2 h
      refine x_callV (av := []) (st := []) (pc := 98) dX9_readAll_98 (E_X9_letterNow (d := d + 4) e29) rfl (Nat.le_of_ble_eq_true rfl) zc_X9_letterNow rfl zm_X9_147 zi_X9_letterNow zs_X9_letterNow (zac_ok g30) (by decide) rfl rfl (zst_ok rfl (Nat.le_of_ble_eq_true rfl)) rfl ?_
      refine x_istore_n (pc := 101) dX9_readAll_101 rfl (by decide) rfl ?_
      refine x_goto (pc := 102) dX9_readAll_102 (t := 87) rfl ?_
      refine ex_weak (Ls2 := [.ref l0, .int r27]) ⟨Or.inr rfl, Or.inr rfl, trivial⟩ ?_
      exact ih _ _ _ hl0  _ h K
set_option maxRecDepth 100000 in
set_option maxHeartbeats 2000000 in
theorem E_X9_readAll {G : zG} {d : Nat} {l0 : Nat} {M MR : zM} (h : f_X9_readAll l0 M = some MR) : Ex G (d + 5) yX9_readAll cX9_readAll 2 none 0 (zent0 [.ref l0] 2) [] M (none, MR) := by
  unfold f_X9_readAll at h
  obtain ⟨zz0, h⟩ := bt h
  have hl0 := bz zz0
  show Ex _ _ _ _ _ _ 0 [.ref l0, .null] [] _ _
  refine x_aload_n (pc := 0) dX9_readAll_0 rfl rfl hl0 ?_
  refine x_iconst (pc := 1) dX9_readAll_1 (v := 0) rfl ?_
  obtain ⟨M1, e2, h⟩ := ob h
  refine y_putI (pc := 2) dX9_readAll_2 zf_X9_144 e2 ?_
  refine x_aload_n (pc := 5) dX9_readAll_5 rfl rfl hl0 ?_
  refine x_iconst (pc := 6) dX9_readAll_6 (v := 0) rfl ?_
  obtain ⟨M3, e4, h⟩ := ob h
  refine y_putI (pc := 7) dX9_readAll_7 zf_X9_138 e4 ?_
  refine x_aload_n (pc := 10) dX9_readAll_10 rfl rfl hl0 ?_
  refine x_iconst (pc := 11) dX9_readAll_11 (v := (-1)) rfl ?_
  obtain ⟨M5, e6, h⟩ := ob h
  refine y_putI (pc := 12) dX9_readAll_12 zf_X9_141 e6 ?_
  refine x_aload_n (pc := 15) dX9_readAll_15 rfl rfl hl0 ?_
  refine x_iconst (pc := 16) dX9_readAll_16 (v := 0) rfl ?_
  obtain ⟨M7, e8, h⟩ := ob h
  refine y_putI (pc := 17) dX9_readAll_17 zf_X9_188 e8 ?_
  refine x_aload_n (pc := 20) dX9_readAll_20 rfl rfl hl0 ?_
  refine x_iconst (pc := 21) dX9_readAll_21 (v := 0) rfl ?_
  obtain ⟨M9, e10, h⟩ := ob h
  refine y_putI (pc := 22) dX9_readAll_22 zf_X9_162 e10 ?_
  refine x_aload_n (pc := 25) dX9_readAll_25 rfl rfl hl0 ?_
  refine x_iconst (pc := 26) dX9_readAll_26 (v := 0) rfl ?_
  obtain ⟨M11, e12, h⟩ := ob h
  refine y_putI (pc := 27) dX9_readAll_27 zf_X9_182 e12 ?_
  refine x_aload_n (pc := 30) dX9_readAll_30 rfl rfl hl0 ?_
  refine x_iconst (pc := 31) dX9_readAll_31 (v := 0) rfl ?_
  obtain ⟨M13, e14, h⟩ := ob h
  refine y_putI (pc := 32) dX9_readAll_32 zf_X9_185 e14 ?_
  refine x_aload_n (pc := 35) dX9_readAll_35 rfl rfl hl0 ?_
  refine x_iconst (pc := 36) dX9_readAll_36 (v := 0) rfl ?_
  obtain ⟨M15, e16, h⟩ := ob h
  refine y_putI (pc := 37) dX9_readAll_37 zf_X9_172 e16 ?_
  refine x_iconst (pc := 40) dX9_readAll_40 (v := 0) rfl ?_
  refine x_istore_n (pc := 41) dX9_readAll_41 rfl (by decide) rfl ?_
  obtain ⟨M18, e17, h⟩ := ob h
  refine ex_weak (Ls2 := [.ref l0, .int 0]) ⟨Or.inr rfl, Or.inr rfl, trivial⟩ ?_
  refine LX_X9_readAll_42 zN _ _ _ hl0 _ e17 ?_
  refine x_iconst (pc := 61) dX9_readAll_61 (v := 0) rfl ?_
  refine x_istore_n (pc := 62) dX9_readAll_62 rfl (by decide) rfl ?_
  obtain ⟨M20, e19, h⟩ := ob h
  refine ex_weak (Ls2 := [.ref l0, .int 0]) ⟨Or.inr rfl, Or.inr rfl, trivial⟩ ?_
  refine LX_X9_readAll_63 zN _ _ _ hl0 _ e19 ?_
  refine x_aload_n (pc := 82) dX9_readAll_82 rfl rfl hl0 ?_
  obtain ⟨g26, h⟩ := bt h
  obtain ⟨r21, M22, e23, h⟩ := ob2 h
  refine x_callV (av := []) (st := []) (pc := 83) dX9_readAll_83 (E_X9_letterNow (d := d + 4) e23) rfl (Nat.le_of_ble_eq_true rfl) zc_X9_letterNow rfl zm_X9_147 zi_X9_letterNow zs_X9_letterNow (zac_ok g26) (by decide) rfl rfl (zst_ok rfl (Nat.le_of_ble_eq_true rfl)) rfl ?_
  refine x_istore_n (pc := 86) dX9_readAll_86 rfl (by decide) rfl ?_
  obtain ⟨M25, e24, h⟩ := ob h
  refine ex_weak (Ls2 := [.ref l0, .int r21]) ⟨Or.inr rfl, Or.inr rfl, trivial⟩ ?_
  refine LX_X9_readAll_87 zN _ _ _ hl0 _ e24 ?_
  obtain rfl := s1 h
  exact x_vret (pc := 105) dX9_readAll_105 rfl
def L_X9_town_77 : Nat → Nat → Int32 → zM → Option (zM)
  | 0, _, _, _ => none
  | n + 1, l0, l1, M => if 69 ≤ l1 then (some M) else ((oR M l0 9 58 0).bind fun v30 => (sI M v30 l1 0).bind fun M32 => L_X9_town_77 n l0 (l1 + 1) M32)
def L_X9_town_98 : Nat → Nat → Int32 → zM → Option (zM)
  | 0, _, _, _ => none
  | n + 1, l0, l1, M => if 8 ≤ l1 then (some M) else ((oR M l0 9 58 0).bind fun v32 => (oI M l0 9 58 6).bind fun v34 => if v34 ≤ l1 then ((sI M v32 (5 + l1) 0).bind fun M37 => (oR M37 l0 9 58 0).bind fun v39 => (oR M37 l0 9 58 0).bind fun v41 => (aI M37 v41 (5 + l1)).bind fun v43 => (sI M37 v39 (13 + l1) v43).bind fun M45 => (oR M45 l0 9 58 9).bind fun v47 => (oR M45 l0 9 58 27).bind fun v49 => (aI M45 v49 l1).bind fun v51 => (sI M45 v47 l1 v51).bind fun M53 => (oR M53 l0 9 58 10).bind fun v55 => (oR M53 l0 9 58 28).bind fun v57 => (aI M53 v57 l1).bind fun v59 => (sI M53 v55 l1 v59).bind fun M61 => (oR M61 l0 9 58 12).bind fun v63 => (oR M61 l0 9 58 30).bind fun v65 => (aZ M61 v65 l1).bind fun v67 => (sZ M61 v63 l1 v67).bind fun M69 => L_X9_town_98 n l0 (l1 + 1) M69) else ((oR M l0 9 58 26).bind fun v71 => (aI M v71 l1).bind fun v73 => (sI M v32 (5 + l1) v73).bind fun M75 => (oR M75 l0 9 58 0).bind fun v77 => (oR M75 l0 9 58 0).bind fun v79 => (aI M75 v79 (5 + l1)).bind fun v81 => (sI M75 v77 (13 + l1) v81).bind fun M83 => (oR M83 l0 9 58 9).bind fun v85 => (oR M83 l0 9 58 27).bind fun v87 => (aI M83 v87 l1).bind fun v89 => (sI M83 v85 l1 v89).bind fun M91 => (oR M91 l0 9 58 10).bind fun v93 => (oR M91 l0 9 58 28).bind fun v95 => (aI M91 v95 l1).bind fun v97 => (sI M91 v93 l1 v97).bind fun M99 => (oR M99 l0 9 58 12).bind fun v101 => (oR M99 l0 9 58 30).bind fun v103 => (aZ M99 v103 l1).bind fun v105 => (sZ M99 v101 l1 v105).bind fun M107 => L_X9_town_98 n l0 (l1 + 1) M107))
def L_X9_town_191 : Nat → Nat → Int32 → zM → Option (zM)
  | 0, _, _, _ => none
  | n + 1, l0, l1, M => if 16 ≤ l1 then (some M) else ((oR M l0 9 58 11).bind fun v34 => (oR M l0 9 58 29).bind fun v36 => (aI M v36 l1).bind fun v38 => (sI M v34 l1 v38).bind fun M40 => L_X9_town_191 n l0 (l1 + 1) M40)
def L_X9_town_217 : Nat → Nat → Int32 → zM → Option (zM)
  | 0, _, _, _ => none
  | n + 1, l0, l1, M => if 5 ≤ l1 then (some M) else ((oR M l0 9 58 13).bind fun v36 => (oR M l0 9 58 31).bind fun v38 => (aZ M v38 l1).bind fun v40 => (sZ M v36 l1 v40).bind fun M42 => L_X9_town_217 n l0 (l1 + 1) M42)
def L_X9_town_242 : Nat → Nat → Int32 → zM → Option (zM)
  | 0, _, _, _ => none
  | n + 1, l0, l1, M => if 32 ≤ l1 then (some M) else ((oR M l0 9 58 14).bind fun v38 => (oR M l0 9 58 32).bind fun v40 => (aI M v40 l1).bind fun v42 => (sI M v38 l1 v42).bind fun M44 => L_X9_town_242 n l0 (l1 + 1) M44)
def f_X9_town (l0 : Nat) (M : zM) : Option (Int32 × zM) := bif Nat.ble 1 l0 then (bif zac M l0 9 58 then ((f_X9_readAll l0 M).bind fun M1 => (pI M1 l0 9 58 16 0).bind fun M3 => (oI M3 l0 9 58 18).bind fun v5 => if v5 = 0 then ((pI M3 l0 9 58 20 (-1)).bind fun M8 => (oI M8 l0 9 58 18).bind fun v10 => if v10 = 0 then ((oI M8 l0 9 58 21).bind fun v13 => (pI M8 l0 9 58 5 v13).bind fun M15 => (oI M15 l0 9 58 22).bind fun v17 => (pI M15 l0 9 58 6 v17).bind fun M19 => (oI M19 l0 9 58 23).bind fun v21 => (pI M19 l0 9 58 7 v21).bind fun M23 => (oI M23 l0 9 58 24).bind fun v25 => (pI M23 l0 9 58 8 v25).bind fun M27 => (L_X9_town_77 zN l0 0 M27).bind fun M30 => (L_X9_town_98 zN l0 0 M30).bind fun M32 => (L_X9_town_191 zN l0 0 M32).bind fun M34 => (L_X9_town_217 zN l0 0 M34).bind fun M36 => (L_X9_town_242 zN l0 0 M36).bind fun M38 => (pI M38 l0 9 58 3 0).bind fun M39 => (pI M39 l0 9 58 48 0).bind fun M41 => (pI M41 l0 9 58 52 0).bind fun M43 => (oR M43 l0 9 58 55).bind fun v45 => (sZ M43 v45 0 0).bind fun M47 => (oR M47 l0 9 58 55).bind fun v49 => (sZ M47 v49 1 0).bind fun M51 => (oI M51 l0 9 58 6).bind fun v53 => some (v53, M51)) else ((oI M8 l0 9 58 18).bind fun v55 => some ((-10) - v55, M8))) else ((oI M3 l0 9 58 19).bind fun v57 => (pI M3 l0 9 58 20 v57).bind fun M59 => (oI M59 l0 9 58 18).bind fun v61 => if v61 = 0 then ((oI M59 l0 9 58 21).bind fun v64 => (pI M59 l0 9 58 5 v64).bind fun M66 => (oI M66 l0 9 58 22).bind fun v68 => (pI M66 l0 9 58 6 v68).bind fun M70 => (oI M70 l0 9 58 23).bind fun v72 => (pI M70 l0 9 58 7 v72).bind fun M74 => (oI M74 l0 9 58 24).bind fun v76 => (pI M74 l0 9 58 8 v76).bind fun M78 => (L_X9_town_77 zN l0 0 M78).bind fun M81 => (L_X9_town_98 zN l0 0 M81).bind fun M83 => (L_X9_town_191 zN l0 0 M83).bind fun M85 => (L_X9_town_217 zN l0 0 M85).bind fun M87 => (L_X9_town_242 zN l0 0 M87).bind fun M89 => (pI M89 l0 9 58 3 0).bind fun M90 => (pI M90 l0 9 58 48 0).bind fun M92 => (pI M92 l0 9 58 52 0).bind fun M94 => (oR M94 l0 9 58 55).bind fun v96 => (sZ M94 v96 0 0).bind fun M98 => (oR M98 l0 9 58 55).bind fun v100 => (sZ M98 v100 1 0).bind fun M102 => (oI M102 l0 9 58 6).bind fun v104 => some (v104, M102)) else ((oI M59 l0 9 58 18).bind fun v106 => some ((-10) - v106, M59)))) else none) else none
set_option maxRecDepth 100000 in
set_option maxHeartbeats 2000000 in
theorem LX_X9_town_77 {G : zG} {d : Nat} : ∀ (n : Nat) (l0 : Nat) (l1 : Int32) (M : zM) (hl0 : l0 ≠ 0) (MX : zM) {res : Option Value × zM}, L_X9_town_77 n l0 l1 M = some MX → Ex G (d + 6) yX9_town cX9_town 2 (some .int) 96 [.ref l0, .null] [] MX res → Ex G (d + 6) yX9_town cX9_town 2 (some .int) 77 [.ref l0, .int l1] [] M res := by
  intro n
  induction n with
  | zero =>
    intro l0 l1 M hl0 MX res h K
    simp [L_X9_town_77] at h
  | succ n ih =>
    intro l0 l1 M hl0 MX res h K
    simp only [L_X9_town_77] at h
    refine x_iload_n (pc := 77) dX9_town_77 rfl rfl ?_
    refine x_bipush (pc := 78) dX9_town_78 (v := 69) (by decide) ?_
    refine x_icmp_ge (pc := 80) dX9_town_80 (t := 96) rfl (fun c29 => ?_) (fun c29 => ?_)
    · rw [if_pos c29] at h
      obtain rfl := s1 h
      refine ex_weak (Ls2 := [.ref l0, .null]) ⟨Or.inr rfl, Or.inl rfl, trivial⟩ ?_
      exact K
    · rw [if_neg c29] at h
      refine x_aload_n (pc := 83) dX9_town_83 rfl rfl hl0 ?_
      obtain ⟨v30, e31, h⟩ := ob h
      refine y_getR (pc := 84) dX9_town_84 zf_X9_7 e31 ?_
      refine x_iload_n (pc := 87) dX9_town_87 rfl rfl ?_
      refine x_iconst (pc := 88) dX9_town_88 (v := 0) rfl ?_
      obtain ⟨M32, e33, h⟩ := ob h
      refine y_iast (pc := 89) dX9_town_89 e33 ?_
      refine x_iinc (pc := 90) dX9_town_90 rfl rfl (by decide) rfl ?_
      refine x_goto (pc := 93) dX9_town_93 (t := 77) rfl ?_
      refine ex_weak (Ls2 := [.ref l0, .int (l1 + 1)]) ⟨Or.inr rfl, Or.inr rfl, trivial⟩ ?_
      exact ih _ _ _ hl0  _ h K
set_option maxRecDepth 100000 in
set_option maxHeartbeats 2000000 in
theorem LX_X9_town_98 {G : zG} {d : Nat} : ∀ (n : Nat) (l0 : Nat) (l1 : Int32) (M : zM) (hl0 : l0 ≠ 0) (MX : zM) {res : Option Value × zM}, L_X9_town_98 n l0 l1 M = some MX → Ex G (d + 6) yX9_town cX9_town 2 (some .int) 189 [.ref l0, .null] [] MX res → Ex G (d + 6) yX9_town cX9_town 2 (some .int) 98 [.ref l0, .int l1] [] M res := by
  intro n
  induction n with
  | zero =>
    intro l0 l1 M hl0 MX res h K
    simp [L_X9_town_98] at h
  | succ n ih =>
    intro l0 l1 M hl0 MX res h K
    simp only [L_X9_town_98] at h
    refine x_iload_n (pc := 98) dX9_town_98 rfl rfl ?_
    refine x_bipush (pc := 99) dX9_town_99 (v := 8) (by decide) ?_
    refine x_icmp_ge (pc := 101) dX9_town_101 (t := 189) rfl (fun c31 => ?_) (fun c31 => ?_)
    · rw [if_pos c31] at h
      obtain rfl := s1 h
      refine ex_weak (Ls2 := [.ref l0, .null]) ⟨Or.inr rfl, Or.inl rfl, trivial⟩ ?_
      exact K
    · rw [if_neg c31] at h
      refine x_aload_n (pc := 104) dX9_town_104 rfl rfl hl0 ?_
      obtain ⟨v32, e33, h⟩ := ob h
      refine y_getR (pc := 105) dX9_town_105 zf_X9_7 e33 ?_
      refine x_iconst (pc := 108) dX9_town_108 (v := 5) rfl ?_
      refine x_iload_n (pc := 109) dX9_town_109 rfl rfl ?_
      refine x_iadd (pc := 110) dX9_town_110 ?_
      refine x_iload_n (pc := 111) dX9_town_111 rfl rfl ?_
      refine x_aload_n (pc := 112) dX9_town_112 rfl rfl hl0 ?_
      obtain ⟨v34, e35, h⟩ := ob h
      refine y_getI (pc := 113) dX9_town_113 zf_X9_117 e35 (by decide) ?_
      refine x_icmp_ge (pc := 116) dX9_town_116 (t := 128) rfl (fun c36 => ?_) (fun c36 => ?_)
      · rw [if_pos c36] at h
        refine x_iconst (pc := 128) dX9_town_128 (v := 0) rfl ?_
        obtain ⟨M37, e38, h⟩ := ob h
        refine y_iast (pc := 129) dX9_town_129 e38 ?_
        refine x_aload_n (pc := 130) dX9_town_130 rfl rfl hl0 ?_
        obtain ⟨v39, e40, h⟩ := ob h
        refine y_getR (pc := 131) dX9_town_131 zf_X9_7 e40 ?_
        refine x_bipush (pc := 134) dX9_town_134 (v := 13) (by decide) ?_
        refine x_iload_n (pc := 136) dX9_town_136 rfl rfl ?_
        refine x_iadd (pc := 137) dX9_town_137 ?_
        refine x_aload_n (pc := 138) dX9_town_138 rfl rfl hl0 ?_
        obtain ⟨v41, e42, h⟩ := ob h
        refine y_getR (pc := 139) dX9_town_139 zf_X9_7 e42 ?_
        refine x_iconst (pc := 142) dX9_town_142 (v := 5) rfl ?_
        refine x_iload_n (pc := 143) dX9_town_143 rfl rfl ?_
        refine x_iadd (pc := 144) dX9_town_144 ?_
        obtain ⟨v43, e44, h⟩ := ob h
        refine y_iald (pc := 145) dX9_town_145 e44 ?_
        obtain ⟨M45, e46, h⟩ := ob h
        refine y_iast (pc := 146) dX9_town_146 e46 ?_
        refine x_aload_n (pc := 147) dX9_town_147 rfl rfl hl0 ?_
        obtain ⟨v47, e48, h⟩ := ob h
        refine y_getR (pc := 148) dX9_town_148 zf_X9_19 e48 ?_
        refine x_iload_n (pc := 151) dX9_town_151 rfl rfl ?_
        refine x_aload_n (pc := 152) dX9_town_152 rfl rfl hl0 ?_
        obtain ⟨v49, e50, h⟩ := ob h
        refine y_getR (pc := 153) dX9_town_153 zf_X9_48 e50 ?_
        refine x_iload_n (pc := 156) dX9_town_156 rfl rfl ?_
        obtain ⟨v51, e52, h⟩ := ob h
        refine y_iald (pc := 157) dX9_town_157 e52 ?_
        obtain ⟨M53, e54, h⟩ := ob h
        refine y_iast (pc := 158) dX9_town_158 e54 ?_
        refine x_aload_n (pc := 159) dX9_town_159 rfl rfl hl0 ?_
        obtain ⟨v55, e56, h⟩ := ob h
        refine y_getR (pc := 160) dX9_town_160 zf_X9_22 e56 ?_
        refine x_iload_n (pc := 163) dX9_town_163 rfl rfl ?_
        refine x_aload_n (pc := 164) dX9_town_164 rfl rfl hl0 ?_
        obtain ⟨v57, e58, h⟩ := ob h
        refine y_getR (pc := 165) dX9_town_165 zf_X9_51 e58 ?_
        refine x_iload_n (pc := 168) dX9_town_168 rfl rfl ?_
        obtain ⟨v59, e60, h⟩ := ob h
        refine y_iald (pc := 169) dX9_town_169 e60 ?_
        obtain ⟨M61, e62, h⟩ := ob h
        refine y_iast (pc := 170) dX9_town_170 e62 ?_
        refine x_aload_n (pc := 171) dX9_town_171 rfl rfl hl0 ?_
        obtain ⟨v63, e64, h⟩ := ob h
        refine y_getR (pc := 172) dX9_town_172 zf_X9_28 e64 ?_
        refine x_iload_n (pc := 175) dX9_town_175 rfl rfl ?_
        refine x_aload_n (pc := 176) dX9_town_176 rfl rfl hl0 ?_
        obtain ⟨v65, e66, h⟩ := ob h
        refine y_getR (pc := 177) dX9_town_177 zf_X9_57 e66 ?_
        refine x_iload_n (pc := 180) dX9_town_180 rfl rfl ?_
        obtain ⟨v67, e68, h⟩ := ob h
        refine y_zald (pc := 181) dX9_town_181 e68 ?_
        obtain ⟨M69, e70, h⟩ := ob h
        refine y_zast (pc := 182) dX9_town_182 e70 ?_
        refine x_iinc (pc := 183) dX9_town_183 rfl rfl (by decide) rfl ?_
        refine x_goto (pc := 186) dX9_town_186 (t := 98) rfl ?_
        refine ex_weak (Ls2 := [.ref l0, .int (l1 + 1)]) ⟨Or.inr rfl, Or.inr rfl, trivial⟩ ?_
        exact ih _ _ _ hl0  _ h K
      · rw [if_neg c36] at h
        refine x_aload_n (pc := 119) dX9_town_119 rfl rfl hl0 ?_
        obtain ⟨v71, e72, h⟩ := ob h
        refine y_getR (pc := 120) dX9_town_120 zf_X9_45 e72 ?_
        refine x_iload_n (pc := 123) dX9_town_123 rfl rfl ?_
        obtain ⟨v73, e74, h⟩ := ob h
        refine y_iald (pc := 124) dX9_town_124 e74 ?_
        refine x_goto (pc := 125) dX9_town_125 (t := 129) rfl ?_
        obtain ⟨M75, e76, h⟩ := ob h
        refine y_iast (pc := 129) dX9_town_129 e76 ?_
        refine x_aload_n (pc := 130) dX9_town_130 rfl rfl hl0 ?_
        obtain ⟨v77, e78, h⟩ := ob h
        refine y_getR (pc := 131) dX9_town_131 zf_X9_7 e78 ?_
        refine x_bipush (pc := 134) dX9_town_134 (v := 13) (by decide) ?_
        refine x_iload_n (pc := 136) dX9_town_136 rfl rfl ?_
        refine x_iadd (pc := 137) dX9_town_137 ?_
        refine x_aload_n (pc := 138) dX9_town_138 rfl rfl hl0 ?_
        obtain ⟨v79, e80, h⟩ := ob h
        refine y_getR (pc := 139) dX9_town_139 zf_X9_7 e80 ?_
        refine x_iconst (pc := 142) dX9_town_142 (v := 5) rfl ?_
        refine x_iload_n (pc := 143) dX9_town_143 rfl rfl ?_
        refine x_iadd (pc := 144) dX9_town_144 ?_
        obtain ⟨v81, e82, h⟩ := ob h
        refine y_iald (pc := 145) dX9_town_145 e82 ?_
        obtain ⟨M83, e84, h⟩ := ob h
        refine y_iast (pc := 146) dX9_town_146 e84 ?_
        refine x_aload_n (pc := 147) dX9_town_147 rfl rfl hl0 ?_
        obtain ⟨v85, e86, h⟩ := ob h
        refine y_getR (pc := 148) dX9_town_148 zf_X9_19 e86 ?_
        refine x_iload_n (pc := 151) dX9_town_151 rfl rfl ?_
        refine x_aload_n (pc := 152) dX9_town_152 rfl rfl hl0 ?_
        obtain ⟨v87, e88, h⟩ := ob h
        refine y_getR (pc := 153) dX9_town_153 zf_X9_48 e88 ?_
        refine x_iload_n (pc := 156) dX9_town_156 rfl rfl ?_
        obtain ⟨v89, e90, h⟩ := ob h
        refine y_iald (pc := 157) dX9_town_157 e90 ?_
        obtain ⟨M91, e92, h⟩ := ob h
        refine y_iast (pc := 158) dX9_town_158 e92 ?_
        refine x_aload_n (pc := 159) dX9_town_159 rfl rfl hl0 ?_
        obtain ⟨v93, e94, h⟩ := ob h
        refine y_getR (pc := 160) dX9_town_160 zf_X9_22 e94 ?_
        refine x_iload_n (pc := 163) dX9_town_163 rfl rfl ?_
        refine x_aload_n (pc := 164) dX9_town_164 rfl rfl hl0 ?_
        obtain ⟨v95, e96, h⟩ := ob h
        refine y_getR (pc := 165) dX9_town_165 zf_X9_51 e96 ?_
        refine x_iload_n (pc := 168) dX9_town_168 rfl rfl ?_
        obtain ⟨v97, e98, h⟩ := ob h
        refine y_iald (pc := 169) dX9_town_169 e98 ?_
        obtain ⟨M99, e100, h⟩ := ob h
        refine y_iast (pc := 170) dX9_town_170 e100 ?_
        refine x_aload_n (pc := 171) dX9_town_171 rfl rfl hl0 ?_
        obtain ⟨v101, e102, h⟩ := ob h
        refine y_getR (pc := 172) dX9_town_172 zf_X9_28 e102 ?_
        refine x_iload_n (pc := 175) dX9_town_175 rfl rfl ?_
        refine x_aload_n (pc := 176) dX9_town_176 rfl rfl hl0 ?_
        obtain ⟨v103, e104, h⟩ := ob h
        refine y_getR (pc := 177) dX9_town_177 zf_X9_57 e104 ?_
        refine x_iload_n (pc := 180) dX9_town_180 rfl rfl ?_
        obtain ⟨v105, e106, h⟩ := ob h
        refine y_zald (pc := 181) dX9_town_181 e106 ?_
        obtain ⟨M107, e108, h⟩ := ob h
        refine y_zast (pc := 182) dX9_town_182 e108 ?_
        refine x_iinc (pc := 183) dX9_town_183 rfl rfl (by decide) rfl ?_
        refine x_goto (pc := 186) dX9_town_186 (t := 98) rfl ?_
        refine ex_weak (Ls2 := [.ref l0, .int (l1 + 1)]) ⟨Or.inr rfl, Or.inr rfl, trivial⟩ ?_
        exact ih _ _ _ hl0  _ h K
set_option maxRecDepth 100000 in
set_option maxHeartbeats 2000000 in
theorem LX_X9_town_191 {G : zG} {d : Nat} : ∀ (n : Nat) (l0 : Nat) (l1 : Int32) (M : zM) (hl0 : l0 ≠ 0) (MX : zM) {res : Option Value × zM}, L_X9_town_191 n l0 l1 M = some MX → Ex G (d + 6) yX9_town cX9_town 2 (some .int) 215 [.ref l0, .null] [] MX res → Ex G (d + 6) yX9_town cX9_town 2 (some .int) 191 [.ref l0, .int l1] [] M res := by
  intro n
  induction n with
  | zero =>
    intro l0 l1 M hl0 MX res h K
    simp [L_X9_town_191] at h
  | succ n ih =>
    intro l0 l1 M hl0 MX res h K
    simp only [L_X9_town_191] at h
    refine x_iload_n (pc := 191) dX9_town_191 rfl rfl ?_
    refine x_bipush (pc := 192) dX9_town_192 (v := 16) (by decide) ?_
    refine x_icmp_ge (pc := 194) dX9_town_194 (t := 215) rfl (fun c33 => ?_) (fun c33 => ?_)
    · rw [if_pos c33] at h
      obtain rfl := s1 h
      refine ex_weak (Ls2 := [.ref l0, .null]) ⟨Or.inr rfl, Or.inl rfl, trivial⟩ ?_
      exact K
    · rw [if_neg c33] at h
      refine x_aload_n (pc := 197) dX9_town_197 rfl rfl hl0 ?_
      obtain ⟨v34, e35, h⟩ := ob h
      refine y_getR (pc := 198) dX9_town_198 zf_X9_25 e35 ?_
      refine x_iload_n (pc := 201) dX9_town_201 rfl rfl ?_
      refine x_aload_n (pc := 202) dX9_town_202 rfl rfl hl0 ?_
      obtain ⟨v36, e37, h⟩ := ob h
      refine y_getR (pc := 203) dX9_town_203 zf_X9_54 e37 ?_
      refine x_iload_n (pc := 206) dX9_town_206 rfl rfl ?_
      obtain ⟨v38, e39, h⟩ := ob h
      refine y_iald (pc := 207) dX9_town_207 e39 ?_
      obtain ⟨M40, e41, h⟩ := ob h
      refine y_iast (pc := 208) dX9_town_208 e41 ?_
      refine x_iinc (pc := 209) dX9_town_209 rfl rfl (by decide) rfl ?_
      refine x_goto (pc := 212) dX9_town_212 (t := 191) rfl ?_
      refine ex_weak (Ls2 := [.ref l0, .int (l1 + 1)]) ⟨Or.inr rfl, Or.inr rfl, trivial⟩ ?_
      exact ih _ _ _ hl0  _ h K
set_option maxRecDepth 100000 in
set_option maxHeartbeats 2000000 in
theorem LX_X9_town_217 {G : zG} {d : Nat} : ∀ (n : Nat) (l0 : Nat) (l1 : Int32) (M : zM) (hl0 : l0 ≠ 0) (MX : zM) {res : Option Value × zM}, L_X9_town_217 n l0 l1 M = some MX → Ex G (d + 6) yX9_town cX9_town 2 (some .int) 240 [.ref l0, .null] [] MX res → Ex G (d + 6) yX9_town cX9_town 2 (some .int) 217 [.ref l0, .int l1] [] M res := by
  intro n
  induction n with
  | zero =>
    intro l0 l1 M hl0 MX res h K
    simp [L_X9_town_217] at h
  | succ n ih =>
    intro l0 l1 M hl0 MX res h K
    simp only [L_X9_town_217] at h
    refine x_iload_n (pc := 217) dX9_town_217 rfl rfl ?_
    refine x_iconst (pc := 218) dX9_town_218 (v := 5) rfl ?_
    refine x_icmp_ge (pc := 219) dX9_town_219 (t := 240) rfl (fun c35 => ?_) (fun c35 => ?_)
    · rw [if_pos c35] at h
      obtain rfl := s1 h
      refine ex_weak (Ls2 := [.ref l0, .null]) ⟨Or.inr rfl, Or.inl rfl, trivial⟩ ?_
      exact K
    · rw [if_neg c35] at h
      refine x_aload_n (pc := 222) dX9_town_222 rfl rfl hl0 ?_
      obtain ⟨v36, e37, h⟩ := ob h
      refine y_getR (pc := 223) dX9_town_223 zf_X9_32 e37 ?_
      refine x_iload_n (pc := 226) dX9_town_226 rfl rfl ?_
      refine x_aload_n (pc := 227) dX9_town_227 rfl rfl hl0 ?_
      obtain ⟨v38, e39, h⟩ := ob h
      refine y_getR (pc := 228) dX9_town_228 zf_X9_60 e39 ?_
      refine x_iload_n (pc := 231) dX9_town_231 rfl rfl ?_
      obtain ⟨v40, e41, h⟩ := ob h
      refine y_zald (pc := 232) dX9_town_232 e41 ?_
      obtain ⟨M42, e43, h⟩ := ob h
      refine y_zast (pc := 233) dX9_town_233 e43 ?_
      refine x_iinc (pc := 234) dX9_town_234 rfl rfl (by decide) rfl ?_
      refine x_goto (pc := 237) dX9_town_237 (t := 217) rfl ?_
      refine ex_weak (Ls2 := [.ref l0, .int (l1 + 1)]) ⟨Or.inr rfl, Or.inr rfl, trivial⟩ ?_
      exact ih _ _ _ hl0  _ h K
set_option maxRecDepth 100000 in
set_option maxHeartbeats 2000000 in
theorem LX_X9_town_242 {G : zG} {d : Nat} : ∀ (n : Nat) (l0 : Nat) (l1 : Int32) (M : zM) (hl0 : l0 ≠ 0) (MX : zM) {res : Option Value × zM}, L_X9_town_242 n l0 l1 M = some MX → Ex G (d + 6) yX9_town cX9_town 2 (some .int) 266 [.ref l0, .null] [] MX res → Ex G (d + 6) yX9_town cX9_town 2 (some .int) 242 [.ref l0, .int l1] [] M res := by
  intro n
  induction n with
  | zero =>
    intro l0 l1 M hl0 MX res h K
    simp [L_X9_town_242] at h
  | succ n ih =>
    intro l0 l1 M hl0 MX res h K
    simp only [L_X9_town_242] at h
    refine x_iload_n (pc := 242) dX9_town_242 rfl rfl ?_
    refine x_bipush (pc := 243) dX9_town_243 (v := 32) (by decide) ?_
    refine x_icmp_ge (pc := 245) dX9_town_245 (t := 266) rfl (fun c37 => ?_) (fun c37 => ?_)
    · rw [if_pos c37] at h
      obtain rfl := s1 h
      refine ex_weak (Ls2 := [.ref l0, .null]) ⟨Or.inr rfl, Or.inl rfl, trivial⟩ ?_
      exact K
    · rw [if_neg c37] at h
      refine x_aload_n (pc := 248) dX9_town_248 rfl rfl hl0 ?_
      obtain ⟨v38, e39, h⟩ := ob h
      refine y_getR (pc := 249) dX9_town_249 zf_X9_35 e39 ?_
      refine x_iload_n (pc := 252) dX9_town_252 rfl rfl ?_
      refine x_aload_n (pc := 253) dX9_town_253 rfl rfl hl0 ?_
      obtain ⟨v40, e41, h⟩ := ob h
      refine y_getR (pc := 254) dX9_town_254 zf_X9_63 e41 ?_
      refine x_iload_n (pc := 257) dX9_town_257 rfl rfl ?_
      obtain ⟨v42, e43, h⟩ := ob h
      refine y_iald (pc := 258) dX9_town_258 e43 ?_
      obtain ⟨M44, e45, h⟩ := ob h
      refine y_iast (pc := 259) dX9_town_259 e45 ?_
      refine x_iinc (pc := 260) dX9_town_260 rfl rfl (by decide) rfl ?_
      refine x_goto (pc := 263) dX9_town_263 (t := 242) rfl ?_
      refine ex_weak (Ls2 := [.ref l0, .int (l1 + 1)]) ⟨Or.inr rfl, Or.inr rfl, trivial⟩ ?_
      exact ih _ _ _ hl0  _ h K
set_option maxRecDepth 100000 in
set_option maxHeartbeats 2000000 in
theorem E_X9_town {G : zG} {d : Nat} {l0 : Nat} {M MR : zM} {r : Int32} (h : f_X9_town l0 M = some (r, MR)) : Ex G (d + 6) yX9_town cX9_town 2 (some .int) 0 (zent0 [.ref l0] 2) [] M (some (.int r), MR) := by
  unfold f_X9_town at h
  obtain ⟨zz0, h⟩ := bt h
  have hl0 := bz zz0
  show Ex _ _ _ _ _ _ 0 [.ref l0, .null] [] _ _
  refine x_aload_n (pc := 0) dX9_town_0 rfl rfl hl0 ?_
  obtain ⟨g108, h⟩ := bt h
  obtain ⟨M1, e2, h⟩ := ob h
  refine x_callV (av := []) (st := []) (pc := 1) dX9_town_1 (E_X9_readAll (d := d) e2) rfl (Nat.le_of_ble_eq_true rfl) zc_X9_readAll rfl zm_X9_213 zi_X9_readAll zs_X9_readAll (zac_ok g108) (by decide) rfl rfl (zst_ok rfl (Nat.le_of_ble_eq_true rfl)) rfl ?_
  refine x_aload_n (pc := 4) dX9_town_4 rfl rfl hl0 ?_
  refine x_iconst (pc := 5) dX9_town_5 (v := 0) rfl ?_
  obtain ⟨M3, e4, h⟩ := ob h
  refine y_putI (pc := 6) dX9_town_6 zf_X9_134 e4 ?_
  refine x_aload_n (pc := 9) dX9_town_9 rfl rfl hl0 ?_
  refine x_aload_n (pc := 10) dX9_town_10 rfl rfl hl0 ?_
  obtain ⟨v5, e6, h⟩ := ob h
  refine y_getI (pc := 11) dX9_town_11 zf_X9_138 e6 (by decide) ?_
  refine x_if_ne (pc := 14) dX9_town_14 (t := 21) rfl (fun c7 => ?_) (fun c7 => ?_)
  · rw [if_neg c7] at h
    refine x_aload_n (pc := 21) dX9_town_21 rfl rfl hl0 ?_
    obtain ⟨v57, e58, h⟩ := ob h
    refine y_getI (pc := 22) dX9_town_22 zf_X9_141 e58 (by decide) ?_
    obtain ⟨M59, e60, h⟩ := ob h
    refine y_putI (pc := 25) dX9_town_25 zf_X9_41 e60 ?_
    refine x_aload_n (pc := 28) dX9_town_28 rfl rfl hl0 ?_
    obtain ⟨v61, e62, h⟩ := ob h
    refine y_getI (pc := 29) dX9_town_29 zf_X9_138 e62 (by decide) ?_
    refine x_if_eq (pc := 32) dX9_town_32 (t := 43) rfl (fun c63 => ?_) (fun c63 => ?_)
    · rw [if_pos c63] at h
      refine x_aload_n (pc := 43) dX9_town_43 rfl rfl hl0 ?_
      refine x_aload_n (pc := 44) dX9_town_44 rfl rfl hl0 ?_
      obtain ⟨v64, e65, h⟩ := ob h
      refine y_getI (pc := 45) dX9_town_45 zf_X9_188 e65 (by decide) ?_
      obtain ⟨M66, e67, h⟩ := ob h
      refine y_putI (pc := 48) dX9_town_48 zf_X9_216 e67 ?_
      refine x_aload_n (pc := 51) dX9_town_51 rfl rfl hl0 ?_
      refine x_aload_n (pc := 52) dX9_town_52 rfl rfl hl0 ?_
      obtain ⟨v68, e69, h⟩ := ob h
      refine y_getI (pc := 53) dX9_town_53 zf_X9_162 e69 (by decide) ?_
      obtain ⟨M70, e71, h⟩ := ob h
      refine y_putI (pc := 56) dX9_town_56 zf_X9_117 e71 ?_
      refine x_aload_n (pc := 59) dX9_town_59 rfl rfl hl0 ?_
      refine x_aload_n (pc := 60) dX9_town_60 rfl rfl hl0 ?_
      obtain ⟨v72, e73, h⟩ := ob h
      refine y_getI (pc := 61) dX9_town_61 zf_X9_182 e73 (by decide) ?_
      obtain ⟨M74, e75, h⟩ := ob h
      refine y_putI (pc := 64) dX9_town_64 zf_X9_124 e75 ?_
      refine x_aload_n (pc := 67) dX9_town_67 rfl rfl hl0 ?_
      refine x_aload_n (pc := 68) dX9_town_68 rfl rfl hl0 ?_
      obtain ⟨v76, e77, h⟩ := ob h
      refine y_getI (pc := 69) dX9_town_69 zf_X9_185 e77 (by decide) ?_
      obtain ⟨M78, e79, h⟩ := ob h
      refine y_putI (pc := 72) dX9_town_72 zf_X9_127 e79 ?_
      refine x_iconst (pc := 75) dX9_town_75 (v := 0) rfl ?_
      refine x_istore_n (pc := 76) dX9_town_76 rfl (by decide) rfl ?_
      obtain ⟨M81, e80, h⟩ := ob h
      refine ex_weak (Ls2 := [.ref l0, .int 0]) ⟨Or.inr rfl, Or.inr rfl, trivial⟩ ?_
      refine LX_X9_town_77 zN _ _ _ hl0 _ e80 ?_
      refine x_iconst (pc := 96) dX9_town_96 (v := 0) rfl ?_
      refine x_istore_n (pc := 97) dX9_town_97 rfl (by decide) rfl ?_
      obtain ⟨M83, e82, h⟩ := ob h
      refine ex_weak (Ls2 := [.ref l0, .int 0]) ⟨Or.inr rfl, Or.inr rfl, trivial⟩ ?_
      refine LX_X9_town_98 zN _ _ _ hl0 _ e82 ?_
      refine x_iconst (pc := 189) dX9_town_189 (v := 0) rfl ?_
      refine x_istore_n (pc := 190) dX9_town_190 rfl (by decide) rfl ?_
      obtain ⟨M85, e84, h⟩ := ob h
      refine ex_weak (Ls2 := [.ref l0, .int 0]) ⟨Or.inr rfl, Or.inr rfl, trivial⟩ ?_
      refine LX_X9_town_191 zN _ _ _ hl0 _ e84 ?_
      refine x_iconst (pc := 215) dX9_town_215 (v := 0) rfl ?_
      refine x_istore_n (pc := 216) dX9_town_216 rfl (by decide) rfl ?_
      obtain ⟨M87, e86, h⟩ := ob h
      refine ex_weak (Ls2 := [.ref l0, .int 0]) ⟨Or.inr rfl, Or.inr rfl, trivial⟩ ?_
      refine LX_X9_town_217 zN _ _ _ hl0 _ e86 ?_
      refine x_iconst (pc := 240) dX9_town_240 (v := 0) rfl ?_
      refine x_istore_n (pc := 241) dX9_town_241 rfl (by decide) rfl ?_
      obtain ⟨M89, e88, h⟩ := ob h
      refine ex_weak (Ls2 := [.ref l0, .int 0]) ⟨Or.inr rfl, Or.inr rfl, trivial⟩ ?_
      refine LX_X9_town_242 zN _ _ _ hl0 _ e88 ?_
      refine x_aload_n (pc := 266) dX9_town_266 rfl rfl hl0 ?_
      refine x_iconst (pc := 267) dX9_town_267 (v := 0) rfl ?_
      obtain ⟨M90, e91, h⟩ := ob h
      refine y_putI (pc := 268) dX9_town_268 zf_X9_219 e91 ?_
      refine x_aload_n (pc := 271) dX9_town_271 rfl rfl hl0 ?_
      refine x_iconst (pc := 272) dX9_town_272 (v := 0) rfl ?_
      obtain ⟨M92, e93, h⟩ := ob h
      refine y_putI (pc := 273) dX9_town_273 zf_X9_222 e93 ?_
      refine x_aload_n (pc := 276) dX9_town_276 rfl rfl hl0 ?_
      refine x_iconst (pc := 277) dX9_town_277 (v := 0) rfl ?_
      obtain ⟨M94, e95, h⟩ := ob h
      refine y_putI (pc := 278) dX9_town_278 zf_X9_225 e95 ?_
      refine x_aload_n (pc := 281) dX9_town_281 rfl rfl hl0 ?_
      obtain ⟨v96, e97, h⟩ := ob h
      refine y_getR (pc := 282) dX9_town_282 zf_X9_108 e97 ?_
      refine x_iconst (pc := 285) dX9_town_285 (v := 0) rfl ?_
      refine x_iconst (pc := 286) dX9_town_286 (v := 0) rfl ?_
      obtain ⟨M98, e99, h⟩ := ob h
      refine y_zast (pc := 287) dX9_town_287 e99 ?_
      refine x_aload_n (pc := 288) dX9_town_288 rfl rfl hl0 ?_
      obtain ⟨v100, e101, h⟩ := ob h
      refine y_getR (pc := 289) dX9_town_289 zf_X9_108 e101 ?_
      refine x_iconst (pc := 292) dX9_town_292 (v := 1) rfl ?_
      refine x_iconst (pc := 293) dX9_town_293 (v := 0) rfl ?_
      obtain ⟨M102, e103, h⟩ := ob h
      refine y_zast (pc := 294) dX9_town_294 e103 ?_
      refine x_aload_n (pc := 295) dX9_town_295 rfl rfl hl0 ?_
      obtain ⟨v104, e105, h⟩ := ob h
      refine y_getI (pc := 296) dX9_town_296 zf_X9_117 e105 (by decide) ?_
      obtain ⟨rfl, rfl⟩ := s2 h
      exact y_retI (pc := 299) dX9_town_299 rfl
    · rw [if_neg c63] at h
      refine x_bipush (pc := 35) dX9_town_35 (v := (-10)) (by decide) ?_
      refine x_aload_n (pc := 37) dX9_town_37 rfl rfl hl0 ?_
      obtain ⟨v106, e107, h⟩ := ob h
      refine y_getI (pc := 38) dX9_town_38 zf_X9_138 e107 (by decide) ?_
      refine x_isub (pc := 41) dX9_town_41 ?_
      obtain ⟨rfl, rfl⟩ := s2 h
      exact y_retI (pc := 42) dX9_town_42 rfl
  · rw [if_pos c7] at h
    refine x_iconst (pc := 17) dX9_town_17 (v := (-1)) rfl ?_
    refine x_goto (pc := 18) dX9_town_18 (t := 25) rfl ?_
    obtain ⟨M8, e9, h⟩ := ob h
    refine y_putI (pc := 25) dX9_town_25 zf_X9_41 e9 ?_
    refine x_aload_n (pc := 28) dX9_town_28 rfl rfl hl0 ?_
    obtain ⟨v10, e11, h⟩ := ob h
    refine y_getI (pc := 29) dX9_town_29 zf_X9_138 e11 (by decide) ?_
    refine x_if_eq (pc := 32) dX9_town_32 (t := 43) rfl (fun c12 => ?_) (fun c12 => ?_)
    · rw [if_pos c12] at h
      refine x_aload_n (pc := 43) dX9_town_43 rfl rfl hl0 ?_
      refine x_aload_n (pc := 44) dX9_town_44 rfl rfl hl0 ?_
      obtain ⟨v13, e14, h⟩ := ob h
      refine y_getI (pc := 45) dX9_town_45 zf_X9_188 e14 (by decide) ?_
      obtain ⟨M15, e16, h⟩ := ob h
      refine y_putI (pc := 48) dX9_town_48 zf_X9_216 e16 ?_
      refine x_aload_n (pc := 51) dX9_town_51 rfl rfl hl0 ?_
      refine x_aload_n (pc := 52) dX9_town_52 rfl rfl hl0 ?_
      obtain ⟨v17, e18, h⟩ := ob h
      refine y_getI (pc := 53) dX9_town_53 zf_X9_162 e18 (by decide) ?_
      obtain ⟨M19, e20, h⟩ := ob h
      refine y_putI (pc := 56) dX9_town_56 zf_X9_117 e20 ?_
      refine x_aload_n (pc := 59) dX9_town_59 rfl rfl hl0 ?_
      refine x_aload_n (pc := 60) dX9_town_60 rfl rfl hl0 ?_
      obtain ⟨v21, e22, h⟩ := ob h
      refine y_getI (pc := 61) dX9_town_61 zf_X9_182 e22 (by decide) ?_
      obtain ⟨M23, e24, h⟩ := ob h
      refine y_putI (pc := 64) dX9_town_64 zf_X9_124 e24 ?_
      refine x_aload_n (pc := 67) dX9_town_67 rfl rfl hl0 ?_
      refine x_aload_n (pc := 68) dX9_town_68 rfl rfl hl0 ?_
      obtain ⟨v25, e26, h⟩ := ob h
      refine y_getI (pc := 69) dX9_town_69 zf_X9_185 e26 (by decide) ?_
      obtain ⟨M27, e28, h⟩ := ob h
      refine y_putI (pc := 72) dX9_town_72 zf_X9_127 e28 ?_
      refine x_iconst (pc := 75) dX9_town_75 (v := 0) rfl ?_
      refine x_istore_n (pc := 76) dX9_town_76 rfl (by decide) rfl ?_
      obtain ⟨M30, e29, h⟩ := ob h
      refine ex_weak (Ls2 := [.ref l0, .int 0]) ⟨Or.inr rfl, Or.inr rfl, trivial⟩ ?_
      refine LX_X9_town_77 zN _ _ _ hl0 _ e29 ?_
      refine x_iconst (pc := 96) dX9_town_96 (v := 0) rfl ?_
      refine x_istore_n (pc := 97) dX9_town_97 rfl (by decide) rfl ?_
      obtain ⟨M32, e31, h⟩ := ob h
      refine ex_weak (Ls2 := [.ref l0, .int 0]) ⟨Or.inr rfl, Or.inr rfl, trivial⟩ ?_
      refine LX_X9_town_98 zN _ _ _ hl0 _ e31 ?_
      refine x_iconst (pc := 189) dX9_town_189 (v := 0) rfl ?_
      refine x_istore_n (pc := 190) dX9_town_190 rfl (by decide) rfl ?_
      obtain ⟨M34, e33, h⟩ := ob h
      refine ex_weak (Ls2 := [.ref l0, .int 0]) ⟨Or.inr rfl, Or.inr rfl, trivial⟩ ?_
      refine LX_X9_town_191 zN _ _ _ hl0 _ e33 ?_
      refine x_iconst (pc := 215) dX9_town_215 (v := 0) rfl ?_
      refine x_istore_n (pc := 216) dX9_town_216 rfl (by decide) rfl ?_
      obtain ⟨M36, e35, h⟩ := ob h
      refine ex_weak (Ls2 := [.ref l0, .int 0]) ⟨Or.inr rfl, Or.inr rfl, trivial⟩ ?_
      refine LX_X9_town_217 zN _ _ _ hl0 _ e35 ?_
      refine x_iconst (pc := 240) dX9_town_240 (v := 0) rfl ?_
      refine x_istore_n (pc := 241) dX9_town_241 rfl (by decide) rfl ?_
      obtain ⟨M38, e37, h⟩ := ob h
      refine ex_weak (Ls2 := [.ref l0, .int 0]) ⟨Or.inr rfl, Or.inr rfl, trivial⟩ ?_
      refine LX_X9_town_242 zN _ _ _ hl0 _ e37 ?_
      refine x_aload_n (pc := 266) dX9_town_266 rfl rfl hl0 ?_
      refine x_iconst (pc := 267) dX9_town_267 (v := 0) rfl ?_
      obtain ⟨M39, e40, h⟩ := ob h
      refine y_putI (pc := 268) dX9_town_268 zf_X9_219 e40 ?_
      refine x_aload_n (pc := 271) dX9_town_271 rfl rfl hl0 ?_
      refine x_iconst (pc := 272) dX9_town_272 (v := 0) rfl ?_
      obtain ⟨M41, e42, h⟩ := ob h
      refine y_putI (pc := 273) dX9_town_273 zf_X9_222 e42 ?_
      refine x_aload_n (pc := 276) dX9_town_276 rfl rfl hl0 ?_
      refine x_iconst (pc := 277) dX9_town_277 (v := 0) rfl ?_
      obtain ⟨M43, e44, h⟩ := ob h
      refine y_putI (pc := 278) dX9_town_278 zf_X9_225 e44 ?_
      refine x_aload_n (pc := 281) dX9_town_281 rfl rfl hl0 ?_
      obtain ⟨v45, e46, h⟩ := ob h
      refine y_getR (pc := 282) dX9_town_282 zf_X9_108 e46 ?_
      refine x_iconst (pc := 285) dX9_town_285 (v := 0) rfl ?_
      refine x_iconst (pc := 286) dX9_town_286 (v := 0) rfl ?_
      obtain ⟨M47, e48, h⟩ := ob h
      refine y_zast (pc := 287) dX9_town_287 e48 ?_
      refine x_aload_n (pc := 288) dX9_town_288 rfl rfl hl0 ?_
      obtain ⟨v49, e50, h⟩ := ob h
      refine y_getR (pc := 289) dX9_town_289 zf_X9_108 e50 ?_
      refine x_iconst (pc := 292) dX9_town_292 (v := 1) rfl ?_
      refine x_iconst (pc := 293) dX9_town_293 (v := 0) rfl ?_
      obtain ⟨M51, e52, h⟩ := ob h
      refine y_zast (pc := 294) dX9_town_294 e52 ?_
      refine x_aload_n (pc := 295) dX9_town_295 rfl rfl hl0 ?_
      obtain ⟨v53, e54, h⟩ := ob h
      refine y_getI (pc := 296) dX9_town_296 zf_X9_117 e54 (by decide) ?_
      obtain ⟨rfl, rfl⟩ := s2 h
      exact y_retI (pc := 299) dX9_town_299 rfl
    · rw [if_neg c12] at h
      refine x_bipush (pc := 35) dX9_town_35 (v := (-10)) (by decide) ?_
      refine x_aload_n (pc := 37) dX9_town_37 rfl rfl hl0 ?_
      obtain ⟨v55, e56, h⟩ := ob h
      refine y_getI (pc := 38) dX9_town_38 zf_X9_138 e56 (by decide) ?_
      refine x_isub (pc := 41) dX9_town_41 ?_
      obtain ⟨rfl, rfl⟩ := s2 h
      exact y_retI (pc := 42) dX9_town_42 rfl
def f_X9_fault (l0 : Nat) (M : zM) : Option (Int32) := bif Nat.ble 1 l0 then ((oI M l0 9 58 20).bind fun v1 => some v1) else none
theorem E_X9_fault {G : zG} {d : Nat} {l0 : Nat} {M : zM} {r : Int32} (h : f_X9_fault l0 M = some r) : Ex G d yX9_fault cX9_fault 1 (some .int) 0 (zent0 [.ref l0] 1) [] M (some (.int r), M) := by
  unfold f_X9_fault at h
  obtain ⟨zz0, h⟩ := bt h
  have hl0 := bz zz0
  show Ex _ _ _ _ _ _ 0 [.ref l0] [] _ _
  refine x_aload_n (pc := 0) dX9_fault_0 rfl rfl hl0 ?_
  obtain ⟨v1, e2, h⟩ := ob h
  refine y_getI (pc := 1) dX9_fault_1 zf_X9_41 e2 (by decide) ?_
  obtain rfl := s1 h
  exact y_retI (pc := 4) dX9_fault_4 rfl
def f_X9_dayNow (l0 : Nat) (M : zM) : Option (Int32) := bif Nat.ble 1 l0 then ((oI M l0 9 58 5).bind fun v1 => if v1 = 0 then (some 0) else ((oR M l0 9 58 0).bind fun v4 => (aI M v4 0).bind fun v6 => (oI M l0 9 58 5).bind fun v8 => (rm v6 v8).bind fun v10 => some v10)) else none
theorem E_X9_dayNow {G : zG} {d : Nat} {l0 : Nat} {M : zM} {r : Int32} (h : f_X9_dayNow l0 M = some r) : Ex G d yX9_dayNow cX9_dayNow 1 (some .int) 0 (zent0 [.ref l0] 1) [] M (some (.int r), M) := by
  unfold f_X9_dayNow at h
  obtain ⟨zz0, h⟩ := bt h
  have hl0 := bz zz0
  show Ex _ _ _ _ _ _ 0 [.ref l0] [] _ _
  refine x_aload_n (pc := 0) dX9_dayNow_0 rfl rfl hl0 ?_
  obtain ⟨v1, e2, h⟩ := ob h
  refine y_getI (pc := 1) dX9_dayNow_1 zf_X9_216 e2 (by decide) ?_
  refine x_if_ne (pc := 4) dX9_dayNow_4 (t := 11) rfl (fun c3 => ?_) (fun c3 => ?_)
  · rw [if_neg c3] at h
    refine x_aload_n (pc := 11) dX9_dayNow_11 rfl rfl hl0 ?_
    obtain ⟨v4, e5, h⟩ := ob h
    refine y_getR (pc := 12) dX9_dayNow_12 zf_X9_7 e5 ?_
    refine x_iconst (pc := 15) dX9_dayNow_15 (v := 0) rfl ?_
    obtain ⟨v6, e7, h⟩ := ob h
    refine y_iald (pc := 16) dX9_dayNow_16 e7 ?_
    refine x_aload_n (pc := 17) dX9_dayNow_17 rfl rfl hl0 ?_
    obtain ⟨v8, e9, h⟩ := ob h
    refine y_getI (pc := 18) dX9_dayNow_18 zf_X9_216 e9 (by decide) ?_
    obtain ⟨v10, e11, h⟩ := ob h
    refine y_irem (pc := 21) dX9_dayNow_21 e11 ?_
    obtain rfl := s1 h
    exact y_retI (pc := 22) dX9_dayNow_22 rfl
  · rw [if_pos c3] at h
    refine x_iconst (pc := 7) dX9_dayNow_7 (v := 0) rfl ?_
    refine x_goto (pc := 8) dX9_dayNow_8 (t := 22) rfl ?_
    obtain rfl := s1 h
    exact y_retI (pc := 22) dX9_dayNow_22 rfl
def f_X9_isToCome (l0 : Nat) (l1 : Int32) (M : zM) : Option (Int32) := bif Nat.ble 1 l0 then (bif zac M l0 9 58 then ((f_X9_dayOf l0 l1 M).bind fun r1 => bif zac M l0 9 58 then ((f_X9_dayNow l0 M).bind fun r3 => if r1 < r3 then (some 0) else (some 1)) else none) else none) else none
theorem E_X9_isToCome {G : zG} {d : Nat} {l0 : Nat} {l1 : Int32} {M : zM} {r : Int32} (h : f_X9_isToCome l0 l1 M = some r) : Ex G (d + 1) yX9_isToCome cX9_isToCome 2 (some .boolean) 0 (zent0 [.ref l0, .int l1] 2) [] M (some (.int r), M) := by
  unfold f_X9_isToCome at h
  obtain ⟨zz0, h⟩ := bt h
  have hl0 := bz zz0
  show Ex _ _ _ _ _ _ 0 [.ref l0, .int l1] [] _ _
  refine x_aload_n (pc := 0) dX9_isToCome_0 rfl rfl hl0 ?_
  refine x_iload_n (pc := 1) dX9_isToCome_1 rfl rfl ?_
  obtain ⟨g7, h⟩ := bt h
  obtain ⟨r1, e2, h⟩ := ob h
  refine x_callV (av := [.int l1]) (st := []) (pc := 2) dX9_isToCome_2 (E_X9_dayOf (d := d) e2) rfl (Nat.le_of_ble_eq_true rfl) zc_X9_dayOf rfl zm_X9_228 zi_X9_dayOf zs_X9_dayOf (zac_ok g7) (by decide) rfl rfl (zst_ok rfl (Nat.le_of_ble_eq_true rfl)) rfl ?_
  refine x_aload_n (pc := 5) dX9_isToCome_5 rfl rfl hl0 ?_
  obtain ⟨g6, h⟩ := bt h
  obtain ⟨r3, e4, h⟩ := ob h
  refine x_callV (av := []) (st := [.int r1]) (pc := 6) dX9_isToCome_6 (E_X9_dayNow (d := d) e4) rfl (Nat.le_of_ble_eq_true rfl) zc_X9_dayNow rfl zm_X9_232 zi_X9_dayNow zs_X9_dayNow (zac_ok g6) (by decide) rfl rfl (zst_ok rfl (Nat.le_of_ble_eq_true rfl)) rfl ?_
  refine x_icmp_lt (pc := 9) dX9_isToCome_9 (t := 16) rfl (fun c5 => ?_) (fun c5 => ?_)
  · rw [if_pos c5] at h
    refine x_iconst (pc := 16) dX9_isToCome_16 (v := 0) rfl ?_
    obtain rfl := s1 h
    exact x_ret (pc := 17) dX9_isToCome_17 (ty := .boolean) rfl rfl
  · rw [if_neg c5] at h
    refine x_iconst (pc := 12) dX9_isToCome_12 (v := 1) rfl ?_
    refine x_goto (pc := 13) dX9_isToCome_13 (t := 17) rfl ?_
    obtain rfl := s1 h
    exact x_ret (pc := 17) dX9_isToCome_17 (ty := .boolean) rfl rfl
def L_X9_hoardedOf_5 : Nat → Nat → Nat → Int32 → Int32 → Int32 → zM → Option (Int32)
  | 0, _, _, _, _, _, _ => none
  | n + 1, l0, l1, l2, l3, l4, M => (oI M l0 9 58 7).bind fun v1 => if v1 ≤ l4 then (some l3) else ((aI M l1 ((29 + (8 * l4)) + l2)).bind fun v4 => L_X9_hoardedOf_5 n l0 l1 l2 (l3 + v4) (l4 + 1) M)
def f_X9_hoardedOf (l0 : Nat) (l1 : Nat) (l2 : Int32) (M : zM) : Option (Int32) := bif Nat.ble 1 l0 then (bif Nat.ble 1 l1 then ((L_X9_hoardedOf_5 zN l0 l1 l2 0 0 M).bind fun v2 => some v2) else none) else none
theorem LX_X9_hoardedOf_5 {G : zG} {d : Nat} : ∀ (n : Nat) (l0 : Nat) (l1 : Nat) (l2 : Int32) (l3 : Int32) (l4 : Int32) (M : zM) (hl0 : l0 ≠ 0) (hl1 : l1 ≠ 0) (o3 : Int32) {res : Option Value × zM}, L_X9_hoardedOf_5 n l0 l1 l2 l3 l4 M = some o3 → Ex G d yX9_hoardedOf cX9_hoardedOf 5 (some .int) 35 [.null, .null, .null, .int o3, .null] [] M res → Ex G d yX9_hoardedOf cX9_hoardedOf 5 (some .int) 5 [.ref l0, .ref l1, .int l2, .int l3, .int l4] [] M res := by
  intro n
  induction n with
  | zero =>
    intro l0 l1 l2 l3 l4 M hl0 hl1 o3 res h K
    simp [L_X9_hoardedOf_5] at h
  | succ n ih =>
    intro l0 l1 l2 l3 l4 M hl0 hl1 o3 res h K
    simp only [L_X9_hoardedOf_5] at h
    refine x_iload (pc := 5) dX9_hoardedOf_5 rfl ?_
    refine x_aload_n (pc := 7) dX9_hoardedOf_7 rfl rfl hl0 ?_
    obtain ⟨v1, e2, h⟩ := ob h
    refine y_getI (pc := 8) dX9_hoardedOf_8 zf_X9_124 e2 (by decide) ?_
    refine x_icmp_ge (pc := 11) dX9_hoardedOf_11 (t := 35) rfl (fun c3 => ?_) (fun c3 => ?_)
    · rw [if_pos c3] at h
      obtain rfl := s1 h
      refine ex_weak (Ls2 := [.null, .null, .null, .int l3, .null]) ⟨Or.inl rfl, Or.inl rfl, Or.inl rfl, Or.inr rfl, Or.inl rfl, trivial⟩ ?_
      exact K
    · rw [if_neg c3] at h
      refine x_iload_n (pc := 14) dX9_hoardedOf_14 rfl rfl ?_
      refine x_aload_n (pc := 15) dX9_hoardedOf_15 rfl rfl hl1 ?_
      refine x_bipush (pc := 16) dX9_hoardedOf_16 (v := 29) (by decide) ?_
      refine x_bipush (pc := 18) dX9_hoardedOf_18 (v := 8) (by decide) ?_
      refine x_iload (pc := 20) dX9_hoardedOf_20 rfl ?_
      refine x_imul (pc := 22) dX9_hoardedOf_22 ?_
      refine x_iadd (pc := 23) dX9_hoardedOf_23 ?_
      refine x_iload_n (pc := 24) dX9_hoardedOf_24 rfl rfl ?_
      refine x_iadd (pc := 25) dX9_hoardedOf_25 ?_
      obtain ⟨v4, e5, h⟩ := ob h
      refine y_iald (pc := 26) dX9_hoardedOf_26 e5 ?_
      refine x_iadd (pc := 27) dX9_hoardedOf_27 ?_
      refine x_istore_n (pc := 28) dX9_hoardedOf_28 rfl (by decide) rfl ?_
      refine x_iinc (pc := 29) dX9_hoardedOf_29 rfl rfl (by decide) rfl ?_
      refine x_goto (pc := 32) dX9_hoardedOf_32 (t := 5) rfl ?_
      refine ex_weak (Ls2 := [.ref l0, .ref l1, .int l2, .int (l3 + v4), .int (l4 + 1)]) ⟨Or.inr rfl, Or.inr rfl, Or.inr rfl, Or.inr rfl, Or.inr rfl, trivial⟩ ?_
      exact ih _ _ _ _ _ _ hl0 hl1 _ h K
theorem E_X9_hoardedOf {G : zG} {d : Nat} {l0 : Nat} {l1 : Nat} {l2 : Int32} {M : zM} {r : Int32} (h : f_X9_hoardedOf l0 l1 l2 M = some r) : Ex G d yX9_hoardedOf cX9_hoardedOf 5 (some .int) 0 (zent0 [.ref l0, .ref l1, .int l2] 5) [] M (some (.int r), M) := by
  unfold f_X9_hoardedOf at h
  obtain ⟨zz0, h⟩ := bt h
  have hl0 := bz zz0
  obtain ⟨zz1, h⟩ := bt h
  have hl1 := bz zz1
  show Ex _ _ _ _ _ _ 0 [.ref l0, .ref l1, .int l2, .null, .null] [] _ _
  refine x_iconst (pc := 0) dX9_hoardedOf_0 (v := 0) rfl ?_
  refine x_istore_n (pc := 1) dX9_hoardedOf_1 rfl (by decide) rfl ?_
  refine x_iconst (pc := 2) dX9_hoardedOf_2 (v := 0) rfl ?_
  refine x_istore (pc := 3) dX9_hoardedOf_3 (by decide) rfl ?_
  obtain ⟨v2, e1, h⟩ := ob h
  refine ex_weak (Ls2 := [.ref l0, .ref l1, .int l2, .int 0, .int 0]) ⟨Or.inr rfl, Or.inr rfl, Or.inr rfl, Or.inr rfl, Or.inr rfl, trivial⟩ ?_
  refine LX_X9_hoardedOf_5 zN _ _ _ _ _ _ hl0 hl1 _ e1 ?_
  refine x_iload_n (pc := 35) dX9_hoardedOf_35 rfl rfl ?_
  obtain rfl := s1 h
  exact y_retI (pc := 36) dX9_hoardedOf_36 rfl
def L_X9_told_4 : Nat → Nat → Int32 → Int32 → Int32 → zM → Option (Int32)
  | 0, _, _, _, _, _ => none
  | n + 1, l0, l1, l2, l3, M => (oI M l0 9 58 6).bind fun v1 => if v1 ≤ l3 then (some l2) else ((oR M l0 9 58 0).bind fun v4 => (aI M v4 (21 + l3)).bind fun v6 => if v6 = 0 then (L_X9_told_4 n l0 l1 (l2 ||| (1 <<< (l3 &&& 31))) (l3 + 1) M) else (L_X9_told_4 n l0 l1 (l2 ||| 0) (l3 + 1) M))
def L_X9_told_45 : Nat → Nat → Int32 → Int32 → Int32 → Int32 → zM → Option (Int32)
  | 0, _, _, _, _, _, _ => none
  | n + 1, l0, l1, l2, l3, l4, M => if 16 ≤ l4 then (some l3) else ((oR M l0 9 58 11).bind fun v4 => (aI M v4 l4).bind fun v6 => if v6 = 0 then (L_X9_told_45 n l0 l1 l2 (l3 + 0) (l4 + 1) M) else (L_X9_told_45 n l0 l1 l2 (l3 + 1) (l4 + 1) M))
def f_X9_told (l0 : Nat) (l1 : Int32) (M : zM) : Option (Int32) := bif Nat.ble 1 l0 then ((L_X9_told_4 zN l0 l1 0 0 M).bind fun v2 => (L_X9_told_45 zN l0 l1 v2 0 0 M).bind fun v4 => if l1 = 0 then ((oI M l0 9 58 5).bind fun v6 => some v6) else (if l1 = 1 then ((oI M l0 9 58 6).bind fun v9 => some v9) else (if l1 = 2 then (some v4) else (if l1 = 3 then ((oI M l0 9 58 7).bind fun v13 => some v13) else (if l1 = 4 then ((oI M l0 9 58 8).bind fun v16 => some v16) else (if l1 = 5 then ((oI M l0 9 58 16).bind fun v19 => some v19) else (if l1 = 6 then ((oR M l0 9 58 0).bind fun v22 => (aI M v22 0).bind fun v24 => some v24) else (if l1 = 7 then (bif zac M l0 9 58 then ((f_X9_dayNow l0 M).bind fun r27 => some r27) else none) else (if l1 = 8 then ((oR M l0 9 58 0).bind fun v31 => (aI M v31 1).bind fun v33 => some v33) else (if l1 = 9 then ((oR M l0 9 58 0).bind fun v36 => (aI M v36 2).bind fun v38 => some v38) else (if l1 = 10 then ((oR M l0 9 58 0).bind fun v41 => (aI M v41 3).bind fun v43 => some v43) else (if l1 = 11 then ((oR M l0 9 58 0).bind fun v46 => (aI M v46 4).bind fun v48 => some v48) else (if l1 = 12 then (some v2) else (if l1 = 13 then ((oI M l0 9 58 48).bind fun v52 => some v52) else (if l1 = 14 then ((oI M l0 9 58 52).bind fun v55 => some v55) else (if l1 = 15 then ((oI M l0 9 58 3).bind fun v58 => some v58) else (some (-1000000002)))))))))))))))))) else none
set_option maxRecDepth 100000 in
set_option maxHeartbeats 2000000 in
theorem LX_X9_told_4 {G : zG} {d : Nat} : ∀ (n : Nat) (l0 : Nat) (l1 : Int32) (l2 : Int32) (l3 : Int32) (M : zM) (hl0 : l0 ≠ 0) (o2 : Int32) {res : Option Value × zM}, L_X9_told_4 n l0 l1 l2 l3 M = some o2 → Ex G (d + 1) yX9_told cX9_told 5 (some .int) 40 [.ref l0, .int l1, .int o2, .null, .null] [] M res → Ex G (d + 1) yX9_told cX9_told 5 (some .int) 4 [.ref l0, .int l1, .int l2, .int l3, .null] [] M res := by
  intro n
  induction n with
  | zero =>
    intro l0 l1 l2 l3 M hl0 o2 res h K
    simp [L_X9_told_4] at h
  | succ n ih =>
    intro l0 l1 l2 l3 M hl0 o2 res h K
    simp only [L_X9_told_4] at h
    refine x_iload_n (pc := 4) dX9_told_4 rfl rfl ?_
    refine x_aload_n (pc := 5) dX9_told_5 rfl rfl hl0 ?_
    obtain ⟨v1, e2, h⟩ := ob h
    refine y_getI (pc := 6) dX9_told_6 zf_X9_117 e2 (by decide) ?_
    refine x_icmp_ge (pc := 9) dX9_told_9 (t := 40) rfl (fun c3 => ?_) (fun c3 => ?_)
    · rw [if_pos c3] at h
      obtain rfl := s1 h
      refine ex_weak (Ls2 := [.ref l0, .int l1, .int l2, .null, .null]) ⟨Or.inr rfl, Or.inr rfl, Or.inr rfl, Or.inl rfl, Or.inl rfl, trivial⟩ ?_
      exact K
    · rw [if_neg c3] at h
      refine x_iload_n (pc := 12) dX9_told_12 rfl rfl ?_
      refine x_aload_n (pc := 13) dX9_told_13 rfl rfl hl0 ?_
      obtain ⟨v4, e5, h⟩ := ob h
      refine y_getR (pc := 14) dX9_told_14 zf_X9_7 e5 ?_
      refine x_bipush (pc := 17) dX9_told_17 (v := 21) (by decide) ?_
      refine x_iload_n (pc := 19) dX9_told_19 rfl rfl ?_
      refine x_iadd (pc := 20) dX9_told_20 ?_
      obtain ⟨v6, e7, h⟩ := ob h
      refine y_iald (pc := 21) dX9_told_21 e7 ?_
      refine x_if_ne (pc := 22) dX9_told_22 (t := 31) rfl (fun c8 => ?_) (fun c8 => ?_)
      · rw [if_neg c8] at h
        refine x_iconst (pc := 31) dX9_told_31 (v := 0) rfl ?_
        refine x_ior (pc := 32) dX9_told_32 ?_
        refine x_istore_n (pc := 33) dX9_told_33 rfl (by decide) rfl ?_
        refine x_iinc (pc := 34) dX9_told_34 rfl rfl (by decide) rfl ?_
        refine x_goto (pc := 37) dX9_told_37 (t := 4) rfl ?_
        refine ex_weak (Ls2 := [.ref l0, .int l1, .int (l2 ||| 0), .int (l3 + 1), .null]) ⟨Or.inr rfl, Or.inr rfl, Or.inr rfl, Or.inr rfl, Or.inl rfl, trivial⟩ ?_
        exact ih _ _ _ _ _ hl0 _ h K
      · rw [if_pos c8] at h
        refine x_iconst (pc := 25) dX9_told_25 (v := 1) rfl ?_
        refine x_iload_n (pc := 26) dX9_told_26 rfl rfl ?_
        refine x_ishl (pc := 27) dX9_told_27 ?_
        refine x_goto (pc := 28) dX9_told_28 (t := 32) rfl ?_
        refine x_ior (pc := 32) dX9_told_32 ?_
        refine x_istore_n (pc := 33) dX9_told_33 rfl (by decide) rfl ?_
        refine x_iinc (pc := 34) dX9_told_34 rfl rfl (by decide) rfl ?_
        refine x_goto (pc := 37) dX9_told_37 (t := 4) rfl ?_
        refine ex_weak (Ls2 := [.ref l0, .int l1, .int (l2 ||| (1 <<< (l3 &&& 31))), .int (l3 + 1), .null]) ⟨Or.inr rfl, Or.inr rfl, Or.inr rfl, Or.inr rfl, Or.inl rfl, trivial⟩ ?_
        exact ih _ _ _ _ _ hl0 _ h K
set_option maxRecDepth 100000 in
set_option maxHeartbeats 2000000 in
theorem LX_X9_told_45 {G : zG} {d : Nat} : ∀ (n : Nat) (l0 : Nat) (l1 : Int32) (l2 : Int32) (l3 : Int32) (l4 : Int32) (M : zM) (hl0 : l0 ≠ 0) (o3 : Int32) {res : Option Value × zM}, L_X9_told_45 n l0 l1 l2 l3 l4 M = some o3 → Ex G (d + 1) yX9_told cX9_told 5 (some .int) 76 [.ref l0, .int l1, .int l2, .int o3, .null] [] M res → Ex G (d + 1) yX9_told cX9_told 5 (some .int) 45 [.ref l0, .int l1, .int l2, .int l3, .int l4] [] M res := by
  intro n
  induction n with
  | zero =>
    intro l0 l1 l2 l3 l4 M hl0 o3 res h K
    simp [L_X9_told_45] at h
  | succ n ih =>
    intro l0 l1 l2 l3 l4 M hl0 o3 res h K
    simp only [L_X9_told_45] at h
    refine x_iload (pc := 45) dX9_told_45 rfl ?_
    refine x_bipush (pc := 47) dX9_told_47 (v := 16) (by decide) ?_
    refine x_icmp_ge (pc := 49) dX9_told_49 (t := 76) rfl (fun c3 => ?_) (fun c3 => ?_)
    · rw [if_pos c3] at h
      obtain rfl := s1 h
      refine ex_weak (Ls2 := [.ref l0, .int l1, .int l2, .int l3, .null]) ⟨Or.inr rfl, Or.inr rfl, Or.inr rfl, Or.inr rfl, Or.inl rfl, trivial⟩ ?_
      exact K
    · rw [if_neg c3] at h
      refine x_iload_n (pc := 52) dX9_told_52 rfl rfl ?_
      refine x_aload_n (pc := 53) dX9_told_53 rfl rfl hl0 ?_
      obtain ⟨v4, e5, h⟩ := ob h
      refine y_getR (pc := 54) dX9_told_54 zf_X9_25 e5 ?_
      refine x_iload (pc := 57) dX9_told_57 rfl ?_
      obtain ⟨v6, e7, h⟩ := ob h
      refine y_iald (pc := 59) dX9_told_59 e7 ?_
      refine x_if_ne (pc := 60) dX9_told_60 (t := 67) rfl (fun c8 => ?_) (fun c8 => ?_)
      · rw [if_neg c8] at h
        refine x_iconst (pc := 67) dX9_told_67 (v := 1) rfl ?_
        refine x_iadd (pc := 68) dX9_told_68 ?_
        refine x_istore_n (pc := 69) dX9_told_69 rfl (by decide) rfl ?_
        refine x_iinc (pc := 70) dX9_told_70 rfl rfl (by decide) rfl ?_
        refine x_goto (pc := 73) dX9_told_73 (t := 45) rfl ?_
        refine ex_weak (Ls2 := [.ref l0, .int l1, .int l2, .int (l3 + 1), .int (l4 + 1)]) ⟨Or.inr rfl, Or.inr rfl, Or.inr rfl, Or.inr rfl, Or.inr rfl, trivial⟩ ?_
        exact ih _ _ _ _ _ _ hl0 _ h K
      · rw [if_pos c8] at h
        refine x_iconst (pc := 63) dX9_told_63 (v := 0) rfl ?_
        refine x_goto (pc := 64) dX9_told_64 (t := 68) rfl ?_
        refine x_iadd (pc := 68) dX9_told_68 ?_
        refine x_istore_n (pc := 69) dX9_told_69 rfl (by decide) rfl ?_
        refine x_iinc (pc := 70) dX9_told_70 rfl rfl (by decide) rfl ?_
        refine x_goto (pc := 73) dX9_told_73 (t := 45) rfl ?_
        refine ex_weak (Ls2 := [.ref l0, .int l1, .int l2, .int (l3 + 0), .int (l4 + 1)]) ⟨Or.inr rfl, Or.inr rfl, Or.inr rfl, Or.inr rfl, Or.inr rfl, trivial⟩ ?_
        exact ih _ _ _ _ _ _ hl0 _ h K
set_option maxRecDepth 100000 in
set_option maxHeartbeats 2000000 in
theorem E_X9_told {G : zG} {d : Nat} {l0 : Nat} {l1 : Int32} {M : zM} {r : Int32} (h : f_X9_told l0 l1 M = some r) : Ex G (d + 1) yX9_told cX9_told 5 (some .int) 0 (zent0 [.ref l0, .int l1] 5) [] M (some (.int r), M) := by
  unfold f_X9_told at h
  obtain ⟨zz0, h⟩ := bt h
  have hl0 := bz zz0
  show Ex _ _ _ _ _ _ 0 [.ref l0, .int l1, .null, .null, .null] [] _ _
  refine x_iconst (pc := 0) dX9_told_0 (v := 0) rfl ?_
  refine x_istore_n (pc := 1) dX9_told_1 rfl (by decide) rfl ?_
  refine x_iconst (pc := 2) dX9_told_2 (v := 0) rfl ?_
  refine x_istore_n (pc := 3) dX9_told_3 rfl (by decide) rfl ?_
  obtain ⟨v2, e1, h⟩ := ob h
  refine ex_weak (Ls2 := [.ref l0, .int l1, .int 0, .int 0, .null]) ⟨Or.inr rfl, Or.inr rfl, Or.inr rfl, Or.inr rfl, Or.inl rfl, trivial⟩ ?_
  refine LX_X9_told_4 zN _ _ _ _ _ hl0 _ e1 ?_
  refine x_iconst (pc := 40) dX9_told_40 (v := 0) rfl ?_
  refine x_istore_n (pc := 41) dX9_told_41 rfl (by decide) rfl ?_
  refine x_iconst (pc := 42) dX9_told_42 (v := 0) rfl ?_
  refine x_istore (pc := 43) dX9_told_43 (by decide) rfl ?_
  obtain ⟨v4, e3, h⟩ := ob h
  refine ex_weak (Ls2 := [.ref l0, .int l1, .int v2, .int 0, .int 0]) ⟨Or.inr rfl, Or.inr rfl, Or.inr rfl, Or.inr rfl, Or.inr rfl, trivial⟩ ?_
  refine LX_X9_told_45 zN _ _ _ _ _ _ hl0 _ e3 ?_
  refine x_iload_n (pc := 76) dX9_told_76 rfl rfl ?_
  by_cases c5 : l1 = 0
  · rw [if_pos c5] at h
    refine y_tableIn (pc := 77) dX9_told_77 c5 (q := 0) (off := 79) (t := 156) (by decide) (by decide) (by decide) rfl ?_
    refine x_aload_n (pc := 156) dX9_told_156 rfl rfl hl0 ?_
    obtain ⟨v6, e7, h⟩ := ob h
    refine y_getI (pc := 157) dX9_told_157 zf_X9_216 e7 (by decide) ?_
    obtain rfl := s1 h
    exact y_retI (pc := 160) dX9_told_160 rfl
  · rw [if_neg c5] at h
    by_cases c8 : l1 = 1
    · rw [if_pos c8] at h
      refine y_tableIn (pc := 77) dX9_told_77 c8 (q := 1) (off := 84) (t := 161) (by decide) (by decide) (by decide) rfl ?_
      refine x_aload_n (pc := 161) dX9_told_161 rfl rfl hl0 ?_
      obtain ⟨v9, e10, h⟩ := ob h
      refine y_getI (pc := 162) dX9_told_162 zf_X9_117 e10 (by decide) ?_
      obtain rfl := s1 h
      exact y_retI (pc := 165) dX9_told_165 rfl
    · rw [if_neg c8] at h
      by_cases c11 : l1 = 2
      · rw [if_pos c11] at h
        refine y_tableIn (pc := 77) dX9_told_77 c11 (q := 2) (off := 89) (t := 166) (by decide) (by decide) (by decide) rfl ?_
        refine x_iload_n (pc := 166) dX9_told_166 rfl rfl ?_
        obtain rfl := s1 h
        exact y_retI (pc := 167) dX9_told_167 rfl
      · rw [if_neg c11] at h
        by_cases c12 : l1 = 3
        · rw [if_pos c12] at h
          refine y_tableIn (pc := 77) dX9_told_77 c12 (q := 3) (off := 91) (t := 168) (by decide) (by decide) (by decide) rfl ?_
          refine x_aload_n (pc := 168) dX9_told_168 rfl rfl hl0 ?_
          obtain ⟨v13, e14, h⟩ := ob h
          refine y_getI (pc := 169) dX9_told_169 zf_X9_124 e14 (by decide) ?_
          obtain rfl := s1 h
          exact y_retI (pc := 172) dX9_told_172 rfl
        · rw [if_neg c12] at h
          by_cases c15 : l1 = 4
          · rw [if_pos c15] at h
            refine y_tableIn (pc := 77) dX9_told_77 c15 (q := 4) (off := 96) (t := 173) (by decide) (by decide) (by decide) rfl ?_
            refine x_aload_n (pc := 173) dX9_told_173 rfl rfl hl0 ?_
            obtain ⟨v16, e17, h⟩ := ob h
            refine y_getI (pc := 174) dX9_told_174 zf_X9_127 e17 (by decide) ?_
            obtain rfl := s1 h
            exact y_retI (pc := 177) dX9_told_177 rfl
          · rw [if_neg c15] at h
            by_cases c18 : l1 = 5
            · rw [if_pos c18] at h
              refine y_tableIn (pc := 77) dX9_told_77 c18 (q := 5) (off := 101) (t := 178) (by decide) (by decide) (by decide) rfl ?_
              refine x_aload_n (pc := 178) dX9_told_178 rfl rfl hl0 ?_
              obtain ⟨v19, e20, h⟩ := ob h
              refine y_getI (pc := 179) dX9_told_179 zf_X9_134 e20 (by decide) ?_
              obtain rfl := s1 h
              exact y_retI (pc := 182) dX9_told_182 rfl
            · rw [if_neg c18] at h
              by_cases c21 : l1 = 6
              · rw [if_pos c21] at h
                refine y_tableIn (pc := 77) dX9_told_77 c21 (q := 6) (off := 106) (t := 183) (by decide) (by decide) (by decide) rfl ?_
                refine x_aload_n (pc := 183) dX9_told_183 rfl rfl hl0 ?_
                obtain ⟨v22, e23, h⟩ := ob h
                refine y_getR (pc := 184) dX9_told_184 zf_X9_7 e23 ?_
                refine x_iconst (pc := 187) dX9_told_187 (v := 0) rfl ?_
                obtain ⟨v24, e25, h⟩ := ob h
                refine y_iald (pc := 188) dX9_told_188 e25 ?_
                obtain rfl := s1 h
                exact y_retI (pc := 189) dX9_told_189 rfl
              · rw [if_neg c21] at h
                by_cases c26 : l1 = 7
                · rw [if_pos c26] at h
                  refine y_tableIn (pc := 77) dX9_told_77 c26 (q := 7) (off := 113) (t := 190) (by decide) (by decide) (by decide) rfl ?_
                  refine x_aload_n (pc := 190) dX9_told_190 rfl rfl hl0 ?_
                  obtain ⟨g29, h⟩ := bt h
                  obtain ⟨r27, e28, h⟩ := ob h
                  refine x_callV (av := []) (st := []) (pc := 191) dX9_told_191 (E_X9_dayNow (d := d) e28) rfl (Nat.le_of_ble_eq_true rfl) zc_X9_dayNow rfl zm_X9_232 zi_X9_dayNow zs_X9_dayNow (zac_ok g29) (by decide) rfl rfl (zst_ok rfl (Nat.le_of_ble_eq_true rfl)) rfl ?_
                  obtain rfl := s1 h
                  exact y_retI (pc := 194) dX9_told_194 rfl
                · rw [if_neg c26] at h
                  by_cases c30 : l1 = 8
                  · rw [if_pos c30] at h
                    refine y_tableIn (pc := 77) dX9_told_77 c30 (q := 8) (off := 118) (t := 195) (by decide) (by decide) (by decide) rfl ?_
                    refine x_aload_n (pc := 195) dX9_told_195 rfl rfl hl0 ?_
                    obtain ⟨v31, e32, h⟩ := ob h
                    refine y_getR (pc := 196) dX9_told_196 zf_X9_7 e32 ?_
                    refine x_iconst (pc := 199) dX9_told_199 (v := 1) rfl ?_
                    obtain ⟨v33, e34, h⟩ := ob h
                    refine y_iald (pc := 200) dX9_told_200 e34 ?_
                    obtain rfl := s1 h
                    exact y_retI (pc := 201) dX9_told_201 rfl
                  · rw [if_neg c30] at h
                    by_cases c35 : l1 = 9
                    · rw [if_pos c35] at h
                      refine y_tableIn (pc := 77) dX9_told_77 c35 (q := 9) (off := 125) (t := 202) (by decide) (by decide) (by decide) rfl ?_
                      refine x_aload_n (pc := 202) dX9_told_202 rfl rfl hl0 ?_
                      obtain ⟨v36, e37, h⟩ := ob h
                      refine y_getR (pc := 203) dX9_told_203 zf_X9_7 e37 ?_
                      refine x_iconst (pc := 206) dX9_told_206 (v := 2) rfl ?_
                      obtain ⟨v38, e39, h⟩ := ob h
                      refine y_iald (pc := 207) dX9_told_207 e39 ?_
                      obtain rfl := s1 h
                      exact y_retI (pc := 208) dX9_told_208 rfl
                    · rw [if_neg c35] at h
                      by_cases c40 : l1 = 10
                      · rw [if_pos c40] at h
                        refine y_tableIn (pc := 77) dX9_told_77 c40 (q := 10) (off := 132) (t := 209) (by decide) (by decide) (by decide) rfl ?_
                        refine x_aload_n (pc := 209) dX9_told_209 rfl rfl hl0 ?_
                        obtain ⟨v41, e42, h⟩ := ob h
                        refine y_getR (pc := 210) dX9_told_210 zf_X9_7 e42 ?_
                        refine x_iconst (pc := 213) dX9_told_213 (v := 3) rfl ?_
                        obtain ⟨v43, e44, h⟩ := ob h
                        refine y_iald (pc := 214) dX9_told_214 e44 ?_
                        obtain rfl := s1 h
                        exact y_retI (pc := 215) dX9_told_215 rfl
                      · rw [if_neg c40] at h
                        by_cases c45 : l1 = 11
                        · rw [if_pos c45] at h
                          refine y_tableIn (pc := 77) dX9_told_77 c45 (q := 11) (off := 139) (t := 216) (by decide) (by decide) (by decide) rfl ?_
                          refine x_aload_n (pc := 216) dX9_told_216 rfl rfl hl0 ?_
                          obtain ⟨v46, e47, h⟩ := ob h
                          refine y_getR (pc := 217) dX9_told_217 zf_X9_7 e47 ?_
                          refine x_iconst (pc := 220) dX9_told_220 (v := 4) rfl ?_
                          obtain ⟨v48, e49, h⟩ := ob h
                          refine y_iald (pc := 221) dX9_told_221 e49 ?_
                          obtain rfl := s1 h
                          exact y_retI (pc := 222) dX9_told_222 rfl
                        · rw [if_neg c45] at h
                          by_cases c50 : l1 = 12
                          · rw [if_pos c50] at h
                            refine y_tableIn (pc := 77) dX9_told_77 c50 (q := 12) (off := 146) (t := 223) (by decide) (by decide) (by decide) rfl ?_
                            refine x_iload_n (pc := 223) dX9_told_223 rfl rfl ?_
                            obtain rfl := s1 h
                            exact y_retI (pc := 224) dX9_told_224 rfl
                          · rw [if_neg c50] at h
                            by_cases c51 : l1 = 13
                            · rw [if_pos c51] at h
                              refine y_tableIn (pc := 77) dX9_told_77 c51 (q := 13) (off := 148) (t := 225) (by decide) (by decide) (by decide) rfl ?_
                              refine x_aload_n (pc := 225) dX9_told_225 rfl rfl hl0 ?_
                              obtain ⟨v52, e53, h⟩ := ob h
                              refine y_getI (pc := 226) dX9_told_226 zf_X9_222 e53 (by decide) ?_
                              obtain rfl := s1 h
                              exact y_retI (pc := 229) dX9_told_229 rfl
                            · rw [if_neg c51] at h
                              by_cases c54 : l1 = 14
                              · rw [if_pos c54] at h
                                refine y_tableIn (pc := 77) dX9_told_77 c54 (q := 14) (off := 153) (t := 230) (by decide) (by decide) (by decide) rfl ?_
                                refine x_aload_n (pc := 230) dX9_told_230 rfl rfl hl0 ?_
                                obtain ⟨v55, e56, h⟩ := ob h
                                refine y_getI (pc := 231) dX9_told_231 zf_X9_225 e56 (by decide) ?_
                                obtain rfl := s1 h
                                exact y_retI (pc := 234) dX9_told_234 rfl
                              · rw [if_neg c54] at h
                                by_cases c57 : l1 = 15
                                · rw [if_pos c57] at h
                                  refine y_tableIn (pc := 77) dX9_told_77 c57 (q := 15) (off := 158) (t := 235) (by decide) (by decide) (by decide) rfl ?_
                                  refine x_aload_n (pc := 235) dX9_told_235 rfl rfl hl0 ?_
                                  obtain ⟨v58, e59, h⟩ := ob h
                                  refine y_getI (pc := 236) dX9_told_236 zf_X9_219 e59 (by decide) ?_
                                  obtain rfl := s1 h
                                  exact y_retI (pc := 239) dX9_told_239 rfl
                                · rw [if_neg c57] at h
                                  refine x_tableOut (pc := 77) dX9_told_77 (y_out (n := 15) (by decide) (fun j hj => ?_)) (t := 240) rfl ?_
                                  · match j, hj with
                                    | 0, _ => exact c5
                                    | 1, _ => exact c8
                                    | 2, _ => exact c11
                                    | 3, _ => exact c12
                                    | 4, _ => exact c15
                                    | 5, _ => exact c18
                                    | 6, _ => exact c21
                                    | 7, _ => exact c26
                                    | 8, _ => exact c30
                                    | 9, _ => exact c35
                                    | 10, _ => exact c40
                                    | 11, _ => exact c45
                                    | 12, _ => exact c50
                                    | 13, _ => exact c51
                                    | 14, _ => exact c54
                                    | 15, _ => exact c57
                                    | j + 16, hj => omega
                                  · refine x_ldc (pc := 240) dX9_told_240 zk_X9_133 ?_
                                    obtain rfl := s1 h
                                    exact y_retI (pc := 242) dX9_told_242 rfl
def f_X9_word (l0 : Nat) (l1 : Int32) (l2 : Int32) (M : zM) : Option (Int32) := bif Nat.ble 1 l0 then (bif zac M l0 9 58 then ((f_X9_isWord l0 l1 M).bind fun r1 => if r1 = 0 then (some (-1000000001)) else (if l2 = 0 then ((oR M l0 9 58 0).bind fun v5 => (aI M v5 (5 + l1)).bind fun v7 => some v7) else (if l2 = 1 then ((oR M l0 9 58 9).bind fun v10 => (aI M v10 l1).bind fun v12 => some v12) else (if l2 = 2 then ((oR M l0 9 58 10).bind fun v15 => (aI M v15 l1).bind fun v17 => some v17) else (if l2 = 3 then ((oR M l0 9 58 0).bind fun v20 => (aI M v20 (13 + l1)).bind fun v22 => some v22) else (if l2 = 4 then ((oR M l0 9 58 0).bind fun v25 => bif zac M l0 9 58 then ((f_X9_hoardedOf l0 v25 l1 M).bind fun r27 => some r27) else none) else (if l2 = 5 then ((oR M l0 9 58 0).bind fun v31 => (aI M v31 (21 + l1)).bind fun v33 => some v33) else (if l2 = 6 then ((oR M l0 9 58 11).bind fun v36 => (aI M v36 (2 * l1)).bind fun v38 => some v38) else (if l2 = 7 then ((oR M l0 9 58 11).bind fun v41 => (aI M v41 ((2 * l1) + 1)).bind fun v43 => some v43) else (if l2 = 8 then ((oR M l0 9 58 12).bind fun v46 => (aZ M v46 l1).bind fun v48 => if v48 = 0 then (some 0) else (some 1)) else (some (-1000000002)))))))))))) else none) else none
set_option maxRecDepth 100000 in
set_option maxHeartbeats 2000000 in
theorem E_X9_word {G : zG} {d : Nat} {l0 : Nat} {l1 : Int32} {l2 : Int32} {M : zM} {r : Int32} (h : f_X9_word l0 l1 l2 M = some r) : Ex G (d + 2) yX9_word cX9_word 3 (some .int) 0 (zent0 [.ref l0, .int l1, .int l2] 3) [] M (some (.int r), M) := by
  unfold f_X9_word at h
  obtain ⟨zz0, h⟩ := bt h
  have hl0 := bz zz0
  show Ex _ _ _ _ _ _ 0 [.ref l0, .int l1, .int l2] [] _ _
  refine x_aload_n (pc := 0) dX9_word_0 rfl rfl hl0 ?_
  refine x_iload_n (pc := 1) dX9_word_1 rfl rfl ?_
  obtain ⟨g51, h⟩ := bt h
  obtain ⟨r1, e2, h⟩ := ob h
  refine x_callV (av := [.int l1]) (st := []) (pc := 2) dX9_word_2 (E_X9_isWord (d := d) e2) rfl (Nat.le_of_ble_eq_true rfl) zc_X9_isWord rfl zm_X9_235 zi_X9_isWord zs_X9_isWord (zac_ok g51) (by decide) rfl rfl (zst_ok rfl (Nat.le_of_ble_eq_true rfl)) rfl ?_
  refine x_if_ne (pc := 5) dX9_word_5 (t := 11) rfl (fun c3 => ?_) (fun c3 => ?_)
  · rw [if_neg c3] at h
    refine x_iload_n (pc := 11) dX9_word_11 rfl rfl ?_
    by_cases c4 : l2 = 0
    · rw [if_pos c4] at h
      refine y_tableIn (pc := 12) dX9_word_12 c4 (q := 0) (off := 52) (t := 64) (by decide) (by decide) (by decide) rfl ?_
      refine x_aload_n (pc := 64) dX9_word_64 rfl rfl hl0 ?_
      obtain ⟨v5, e6, h⟩ := ob h
      refine y_getR (pc := 65) dX9_word_65 zf_X9_7 e6 ?_
      refine x_iconst (pc := 68) dX9_word_68 (v := 5) rfl ?_
      refine x_iload_n (pc := 69) dX9_word_69 rfl rfl ?_
      refine x_iadd (pc := 70) dX9_word_70 ?_
      obtain ⟨v7, e8, h⟩ := ob h
      refine y_iald (pc := 71) dX9_word_71 e8 ?_
      obtain rfl := s1 h
      exact y_retI (pc := 72) dX9_word_72 rfl
    · rw [if_neg c4] at h
      by_cases c9 : l2 = 1
      · rw [if_pos c9] at h
        refine y_tableIn (pc := 12) dX9_word_12 c9 (q := 1) (off := 61) (t := 73) (by decide) (by decide) (by decide) rfl ?_
        refine x_aload_n (pc := 73) dX9_word_73 rfl rfl hl0 ?_
        obtain ⟨v10, e11, h⟩ := ob h
        refine y_getR (pc := 74) dX9_word_74 zf_X9_19 e11 ?_
        refine x_iload_n (pc := 77) dX9_word_77 rfl rfl ?_
        obtain ⟨v12, e13, h⟩ := ob h
        refine y_iald (pc := 78) dX9_word_78 e13 ?_
        obtain rfl := s1 h
        exact y_retI (pc := 79) dX9_word_79 rfl
      · rw [if_neg c9] at h
        by_cases c14 : l2 = 2
        · rw [if_pos c14] at h
          refine y_tableIn (pc := 12) dX9_word_12 c14 (q := 2) (off := 68) (t := 80) (by decide) (by decide) (by decide) rfl ?_
          refine x_aload_n (pc := 80) dX9_word_80 rfl rfl hl0 ?_
          obtain ⟨v15, e16, h⟩ := ob h
          refine y_getR (pc := 81) dX9_word_81 zf_X9_22 e16 ?_
          refine x_iload_n (pc := 84) dX9_word_84 rfl rfl ?_
          obtain ⟨v17, e18, h⟩ := ob h
          refine y_iald (pc := 85) dX9_word_85 e18 ?_
          obtain rfl := s1 h
          exact y_retI (pc := 86) dX9_word_86 rfl
        · rw [if_neg c14] at h
          by_cases c19 : l2 = 3
          · rw [if_pos c19] at h
            refine y_tableIn (pc := 12) dX9_word_12 c19 (q := 3) (off := 75) (t := 87) (by decide) (by decide) (by decide) rfl ?_
            refine x_aload_n (pc := 87) dX9_word_87 rfl rfl hl0 ?_
            obtain ⟨v20, e21, h⟩ := ob h
            refine y_getR (pc := 88) dX9_word_88 zf_X9_7 e21 ?_
            refine x_bipush (pc := 91) dX9_word_91 (v := 13) (by decide) ?_
            refine x_iload_n (pc := 93) dX9_word_93 rfl rfl ?_
            refine x_iadd (pc := 94) dX9_word_94 ?_
            obtain ⟨v22, e23, h⟩ := ob h
            refine y_iald (pc := 95) dX9_word_95 e23 ?_
            obtain rfl := s1 h
            exact y_retI (pc := 96) dX9_word_96 rfl
          · rw [if_neg c19] at h
            by_cases c24 : l2 = 4
            · rw [if_pos c24] at h
              refine y_tableIn (pc := 12) dX9_word_12 c24 (q := 4) (off := 85) (t := 97) (by decide) (by decide) (by decide) rfl ?_
              refine x_aload_n (pc := 97) dX9_word_97 rfl rfl hl0 ?_
              refine x_aload_n (pc := 98) dX9_word_98 rfl rfl hl0 ?_
              obtain ⟨v25, e26, h⟩ := ob h
              refine y_getR (pc := 99) dX9_word_99 zf_X9_7 e26 ?_
              refine x_iload_n (pc := 102) dX9_word_102 rfl rfl ?_
              obtain ⟨g29, h⟩ := bt h
              obtain ⟨r27, e28, h⟩ := ob h
              refine x_callV (av := [.ref v25, .int l1]) (st := []) (pc := 103) dX9_word_103 (E_X9_hoardedOf (d := d + 1) e28) rfl (Nat.le_of_ble_eq_true rfl) zc_X9_hoardedOf rfl zm_X9_239 zi_X9_hoardedOf zs_X9_hoardedOf (zac_ok g29) (by decide) rfl rfl (zst_ok rfl (Nat.le_of_ble_eq_true rfl)) rfl ?_
              obtain rfl := s1 h
              exact y_retI (pc := 106) dX9_word_106 rfl
            · rw [if_neg c24] at h
              by_cases c30 : l2 = 5
              · rw [if_pos c30] at h
                refine y_tableIn (pc := 12) dX9_word_12 c30 (q := 5) (off := 95) (t := 107) (by decide) (by decide) (by decide) rfl ?_
                refine x_aload_n (pc := 107) dX9_word_107 rfl rfl hl0 ?_
                obtain ⟨v31, e32, h⟩ := ob h
                refine y_getR (pc := 108) dX9_word_108 zf_X9_7 e32 ?_
                refine x_bipush (pc := 111) dX9_word_111 (v := 21) (by decide) ?_
                refine x_iload_n (pc := 113) dX9_word_113 rfl rfl ?_
                refine x_iadd (pc := 114) dX9_word_114 ?_
                obtain ⟨v33, e34, h⟩ := ob h
                refine y_iald (pc := 115) dX9_word_115 e34 ?_
                obtain rfl := s1 h
                exact y_retI (pc := 116) dX9_word_116 rfl
              · rw [if_neg c30] at h
                by_cases c35 : l2 = 6
                · rw [if_pos c35] at h
                  refine y_tableIn (pc := 12) dX9_word_12 c35 (q := 6) (off := 105) (t := 117) (by decide) (by decide) (by decide) rfl ?_
                  refine x_aload_n (pc := 117) dX9_word_117 rfl rfl hl0 ?_
                  obtain ⟨v36, e37, h⟩ := ob h
                  refine y_getR (pc := 118) dX9_word_118 zf_X9_25 e37 ?_
                  refine x_iconst (pc := 121) dX9_word_121 (v := 2) rfl ?_
                  refine x_iload_n (pc := 122) dX9_word_122 rfl rfl ?_
                  refine x_imul (pc := 123) dX9_word_123 ?_
                  obtain ⟨v38, e39, h⟩ := ob h
                  refine y_iald (pc := 124) dX9_word_124 e39 ?_
                  obtain rfl := s1 h
                  exact y_retI (pc := 125) dX9_word_125 rfl
                · rw [if_neg c35] at h
                  by_cases c40 : l2 = 7
                  · rw [if_pos c40] at h
                    refine y_tableIn (pc := 12) dX9_word_12 c40 (q := 7) (off := 114) (t := 126) (by decide) (by decide) (by decide) rfl ?_
                    refine x_aload_n (pc := 126) dX9_word_126 rfl rfl hl0 ?_
                    obtain ⟨v41, e42, h⟩ := ob h
                    refine y_getR (pc := 127) dX9_word_127 zf_X9_25 e42 ?_
                    refine x_iconst (pc := 130) dX9_word_130 (v := 2) rfl ?_
                    refine x_iload_n (pc := 131) dX9_word_131 rfl rfl ?_
                    refine x_imul (pc := 132) dX9_word_132 ?_
                    refine x_iconst (pc := 133) dX9_word_133 (v := 1) rfl ?_
                    refine x_iadd (pc := 134) dX9_word_134 ?_
                    obtain ⟨v43, e44, h⟩ := ob h
                    refine y_iald (pc := 135) dX9_word_135 e44 ?_
                    obtain rfl := s1 h
                    exact y_retI (pc := 136) dX9_word_136 rfl
                  · rw [if_neg c40] at h
                    by_cases c45 : l2 = 8
                    · rw [if_pos c45] at h
                      refine y_tableIn (pc := 12) dX9_word_12 c45 (q := 8) (off := 125) (t := 137) (by decide) (by decide) (by decide) rfl ?_
                      refine x_aload_n (pc := 137) dX9_word_137 rfl rfl hl0 ?_
                      obtain ⟨v46, e47, h⟩ := ob h
                      refine y_getR (pc := 138) dX9_word_138 zf_X9_28 e47 ?_
                      refine x_iload_n (pc := 141) dX9_word_141 rfl rfl ?_
                      obtain ⟨v48, e49, h⟩ := ob h
                      refine y_zald (pc := 142) dX9_word_142 e49 ?_
                      refine x_if_eq (pc := 143) dX9_word_143 (t := 150) rfl (fun c50 => ?_) (fun c50 => ?_)
                      · rw [if_pos c50] at h
                        refine x_iconst (pc := 150) dX9_word_150 (v := 0) rfl ?_
                        obtain rfl := s1 h
                        exact y_retI (pc := 151) dX9_word_151 rfl
                      · rw [if_neg c50] at h
                        refine x_iconst (pc := 146) dX9_word_146 (v := 1) rfl ?_
                        refine x_goto (pc := 147) dX9_word_147 (t := 151) rfl ?_
                        obtain rfl := s1 h
                        exact y_retI (pc := 151) dX9_word_151 rfl
                    · rw [if_neg c45] at h
                      refine x_tableOut (pc := 12) dX9_word_12 (y_out (n := 8) (by decide) (fun j hj => ?_)) (t := 152) rfl ?_
                      · match j, hj with
                        | 0, _ => exact c4
                        | 1, _ => exact c9
                        | 2, _ => exact c14
                        | 3, _ => exact c19
                        | 4, _ => exact c24
                        | 5, _ => exact c30
                        | 6, _ => exact c35
                        | 7, _ => exact c40
                        | 8, _ => exact c45
                        | j + 9, hj => omega
                      · refine x_ldc (pc := 152) dX9_word_152 zk_X9_133 ?_
                        obtain rfl := s1 h
                        exact y_retI (pc := 154) dX9_word_154 rfl
  · rw [if_pos c3] at h
    refine x_ldc (pc := 8) dX9_word_8 zk_X9_238 ?_
    obtain rfl := s1 h
    exact y_retI (pc := 10) dX9_word_10 rfl
def f_X9_hoarded (l0 : Nat) (l1 : Int32) (l2 : Int32) (M : zM) : Option (Int32) := bif Nat.ble 1 l0 then (bif zac M l0 9 58 then ((f_X9_isPerson l0 l1 M).bind fun r1 => if r1 = 0 then (some (-1000000001)) else (bif zac M l0 9 58 then ((f_X9_isWord l0 l2 M).bind fun r4 => if r4 = 0 then (some (-1000000001)) else ((oR M l0 9 58 0).bind fun v7 => (aI M v7 ((29 + (8 * l1)) + l2)).bind fun v9 => some v9)) else none)) else none) else none
theorem E_X9_hoarded {G : zG} {d : Nat} {l0 : Nat} {l1 : Int32} {l2 : Int32} {M : zM} {r : Int32} (h : f_X9_hoarded l0 l1 l2 M = some r) : Ex G (d + 2) yX9_hoarded cX9_hoarded 3 (some .int) 0 (zent0 [.ref l0, .int l1, .int l2] 3) [] M (some (.int r), M) := by
  unfold f_X9_hoarded at h
  obtain ⟨zz0, h⟩ := bt h
  have hl0 := bz zz0
  show Ex _ _ _ _ _ _ 0 [.ref l0, .int l1, .int l2] [] _ _
  refine x_aload_n (pc := 0) dX9_hoarded_0 rfl rfl hl0 ?_
  refine x_iload_n (pc := 1) dX9_hoarded_1 rfl rfl ?_
  obtain ⟨g12, h⟩ := bt h
  obtain ⟨r1, e2, h⟩ := ob h
  refine x_callV (av := [.int l1]) (st := []) (pc := 2) dX9_hoarded_2 (E_X9_isPerson (d := d) e2) rfl (Nat.le_of_ble_eq_true rfl) zc_X9_isPerson rfl zm_X9_243 zi_X9_isPerson zs_X9_isPerson (zac_ok g12) (by decide) rfl rfl (zst_ok rfl (Nat.le_of_ble_eq_true rfl)) rfl ?_
  refine x_if_eq (pc := 5) dX9_hoarded_5 (t := 33) rfl (fun c3 => ?_) (fun c3 => ?_)
  · rw [if_pos c3] at h
    refine x_ldc (pc := 33) dX9_hoarded_33 zk_X9_238 ?_
    obtain rfl := s1 h
    exact y_retI (pc := 35) dX9_hoarded_35 rfl
  · rw [if_neg c3] at h
    refine x_aload_n (pc := 8) dX9_hoarded_8 rfl rfl hl0 ?_
    refine x_iload_n (pc := 9) dX9_hoarded_9 rfl rfl ?_
    obtain ⟨g11, h⟩ := bt h
    obtain ⟨r4, e5, h⟩ := ob h
    refine x_callV (av := [.int l2]) (st := []) (pc := 10) dX9_hoarded_10 (E_X9_isWord (d := d) e5) rfl (Nat.le_of_ble_eq_true rfl) zc_X9_isWord rfl zm_X9_235 zi_X9_isWord zs_X9_isWord (zac_ok g11) (by decide) rfl rfl (zst_ok rfl (Nat.le_of_ble_eq_true rfl)) rfl ?_
    refine x_if_eq (pc := 13) dX9_hoarded_13 (t := 33) rfl (fun c6 => ?_) (fun c6 => ?_)
    · rw [if_pos c6] at h
      refine x_ldc (pc := 33) dX9_hoarded_33 zk_X9_238 ?_
      obtain rfl := s1 h
      exact y_retI (pc := 35) dX9_hoarded_35 rfl
    · rw [if_neg c6] at h
      refine x_aload_n (pc := 16) dX9_hoarded_16 rfl rfl hl0 ?_
      obtain ⟨v7, e8, h⟩ := ob h
      refine y_getR (pc := 17) dX9_hoarded_17 zf_X9_7 e8 ?_
      refine x_bipush (pc := 20) dX9_hoarded_20 (v := 29) (by decide) ?_
      refine x_bipush (pc := 22) dX9_hoarded_22 (v := 8) (by decide) ?_
      refine x_iload_n (pc := 24) dX9_hoarded_24 rfl rfl ?_
      refine x_imul (pc := 25) dX9_hoarded_25 ?_
      refine x_iadd (pc := 26) dX9_hoarded_26 ?_
      refine x_iload_n (pc := 27) dX9_hoarded_27 rfl rfl ?_
      refine x_iadd (pc := 28) dX9_hoarded_28 ?_
      obtain ⟨v9, e10, h⟩ := ob h
      refine y_iald (pc := 29) dX9_hoarded_29 e10 ?_
      refine x_goto (pc := 30) dX9_hoarded_30 (t := 35) rfl ?_
      obtain rfl := s1 h
      exact y_retI (pc := 35) dX9_hoarded_35 rfl
def f_X9_need (l0 : Nat) (l1 : Int32) (l2 : Int32) (M : zM) : Option (Int32) := bif Nat.ble 1 l0 then (bif zac M l0 9 58 then ((f_X9_isNeed l0 l1 M).bind fun r1 => if r1 = 0 then (some (-1000000001)) else ((f_X9_in (Int32.toInt64 l2) 0 4 M).bind fun r4 => if r4 = 0 then (some (-1000000002)) else (if 4 ≤ l2 then (bif zac M l0 9 58 then ((f_X9_isToCome l0 l1 M).bind fun r8 => if r8 = 0 then (some 0) else (some 1)) else none) else ((oR M l0 9 58 14).bind fun v12 => (aI M v12 ((4 * l1) + l2)).bind fun v14 => some v14)))) else none) else none
theorem E_X9_need {G : zG} {d : Nat} {l0 : Nat} {l1 : Int32} {l2 : Int32} {M : zM} {r : Int32} (h : f_X9_need l0 l1 l2 M = some r) : Ex G (d + 2) yX9_need cX9_need 3 (some .int) 0 (zent0 [.ref l0, .int l1, .int l2] 3) [] M (some (.int r), M) := by
  unfold f_X9_need at h
  obtain ⟨zz0, h⟩ := bt h
  have hl0 := bz zz0
  show Ex _ _ _ _ _ _ 0 [.ref l0, .int l1, .int l2] [] _ _
  refine x_aload_n (pc := 0) dX9_need_0 rfl rfl hl0 ?_
  refine x_iload_n (pc := 1) dX9_need_1 rfl rfl ?_
  obtain ⟨g16, h⟩ := bt h
  obtain ⟨r1, e2, h⟩ := ob h
  refine x_callV (av := [.int l1]) (st := []) (pc := 2) dX9_need_2 (E_X9_isNeed (d := d) e2) rfl (Nat.le_of_ble_eq_true rfl) zc_X9_isNeed rfl zm_X9_246 zi_X9_isNeed zs_X9_isNeed (zac_ok g16) (by decide) rfl rfl (zst_ok rfl (Nat.le_of_ble_eq_true rfl)) rfl ?_
  refine x_if_ne (pc := 5) dX9_need_5 (t := 11) rfl (fun c3 => ?_) (fun c3 => ?_)
  · rw [if_neg c3] at h
    refine x_iload_n (pc := 11) dX9_need_11 rfl rfl ?_
    refine x_i2l (pc := 12) dX9_need_12 ?_
    refine x_lconst (pc := 13) dX9_need_13 (v := 0) rfl ?_
    refine x_ldc2 (pc := 14) dX9_need_14 zk_X9_249 ?_
    obtain ⟨r4, e5, h⟩ := ob h
    refine x_callS (av := [.long (Int32.toInt64 l2), .long 0, .long 4]) (st := []) (pc := 17) dX9_need_17 (E_X9_in (d := d + 1) e5) rfl (Nat.le_of_ble_eq_true rfl) zc_X9_in rfl zm_X9_120 zs_X9_in rfl (zst_ok rfl (Nat.le_of_ble_eq_true rfl)) rfl ?_
    refine x_if_ne (pc := 20) dX9_need_20 (t := 26) rfl (fun c6 => ?_) (fun c6 => ?_)
    · rw [if_neg c6] at h
      refine x_iload_n (pc := 26) dX9_need_26 rfl rfl ?_
      refine x_iconst (pc := 27) dX9_need_27 (v := 4) rfl ?_
      refine x_icmp_ge (pc := 28) dX9_need_28 (t := 44) rfl (fun c7 => ?_) (fun c7 => ?_)
      · rw [if_pos c7] at h
        refine x_aload_n (pc := 44) dX9_need_44 rfl rfl hl0 ?_
        refine x_iload_n (pc := 45) dX9_need_45 rfl rfl ?_
        obtain ⟨g11, h⟩ := bt h
        obtain ⟨r8, e9, h⟩ := ob h
        refine x_callV (av := [.int l1]) (st := []) (pc := 46) dX9_need_46 (E_X9_isToCome (d := d) e9) rfl (Nat.le_of_ble_eq_true rfl) zc_X9_isToCome rfl zm_X9_251 zi_X9_isToCome zs_X9_isToCome (zac_ok g11) (by decide) rfl rfl (zst_ok rfl (Nat.le_of_ble_eq_true rfl)) rfl ?_
        refine x_if_eq (pc := 49) dX9_need_49 (t := 56) rfl (fun c10 => ?_) (fun c10 => ?_)
        · rw [if_pos c10] at h
          refine x_iconst (pc := 56) dX9_need_56 (v := 0) rfl ?_
          obtain rfl := s1 h
          exact y_retI (pc := 57) dX9_need_57 rfl
        · rw [if_neg c10] at h
          refine x_iconst (pc := 52) dX9_need_52 (v := 1) rfl ?_
          refine x_goto (pc := 53) dX9_need_53 (t := 57) rfl ?_
          obtain rfl := s1 h
          exact y_retI (pc := 57) dX9_need_57 rfl
      · rw [if_neg c7] at h
        refine x_aload_n (pc := 31) dX9_need_31 rfl rfl hl0 ?_
        obtain ⟨v12, e13, h⟩ := ob h
        refine y_getR (pc := 32) dX9_need_32 zf_X9_35 e13 ?_
        refine x_iconst (pc := 35) dX9_need_35 (v := 4) rfl ?_
        refine x_iload_n (pc := 36) dX9_need_36 rfl rfl ?_
        refine x_imul (pc := 37) dX9_need_37 ?_
        refine x_iload_n (pc := 38) dX9_need_38 rfl rfl ?_
        refine x_iadd (pc := 39) dX9_need_39 ?_
        obtain ⟨v14, e15, h⟩ := ob h
        refine y_iald (pc := 40) dX9_need_40 e15 ?_
        refine x_goto (pc := 41) dX9_need_41 (t := 57) rfl ?_
        obtain rfl := s1 h
        exact y_retI (pc := 57) dX9_need_57 rfl
    · rw [if_pos c6] at h
      refine x_ldc (pc := 23) dX9_need_23 zk_X9_133 ?_
      obtain rfl := s1 h
      exact y_retI (pc := 25) dX9_need_25 rfl
  · rw [if_pos c3] at h
    refine x_ldc (pc := 8) dX9_need_8 zk_X9_238 ?_
    obtain rfl := s1 h
    exact y_retI (pc := 10) dX9_need_10 rfl
def L_X9_keepAct_11 : Nat → Nat → Int32 → zM → Option (zM)
  | 0, _, _, _ => none
  | n + 1, l0, l1, M => if 1035 ≤ l1 then (some M) else ((oR M l0 9 58 2).bind fun v5 => (oR M l0 9 58 2).bind fun v7 => (aI M v7 (l1 + 69)).bind fun v9 => (sI M v5 l1 v9).bind fun M11 => L_X9_keepAct_11 n l0 (l1 + 1) M11)
def L_X9_keepAct_51 : Nat → Nat → Int32 → zM → Option (zM)
  | 0, _, _, _ => none
  | n + 1, l0, l1, M => if 69 ≤ l1 then (some M) else ((oR M l0 9 58 2).bind fun v11 => (oI M l0 9 58 3).bind fun v13 => (oR M l0 9 58 0).bind fun v15 => (aI M v15 l1).bind fun v17 => (sI M v11 ((69 * v13) + l1) v17).bind fun M19 => L_X9_keepAct_51 n l0 (l1 + 1) M19)
def f_X9_keepAct (l0 : Nat) (M : zM) : Option (zM) := bif Nat.ble 1 l0 then ((oI M l0 9 58 3).bind fun v1 => if v1 = 16 then ((L_X9_keepAct_11 zN l0 0 M).bind fun M5 => (oI M5 l0 9 58 3).bind fun v6 => (pI M5 l0 9 58 3 (v6 - 1)).bind fun M8 => (L_X9_keepAct_51 zN l0 0 M8).bind fun M11 => (oI M11 l0 9 58 3).bind fun v12 => (pI M11 l0 9 58 3 (v12 + 1)).bind fun M14 => some M14) else ((L_X9_keepAct_51 zN l0 0 M).bind fun M17 => (oI M17 l0 9 58 3).bind fun v18 => (pI M17 l0 9 58 3 (v18 + 1)).bind fun M20 => some M20)) else none
theorem LX_X9_keepAct_11 {G : zG} {d : Nat} : ∀ (n : Nat) (l0 : Nat) (l1 : Int32) (M : zM) (hl0 : l0 ≠ 0) (MX : zM) {res : Option Value × zM}, L_X9_keepAct_11 n l0 l1 M = some MX → Ex G d yX9_keepAct cX9_keepAct 2 none 39 [.ref l0, .null] [] MX res → Ex G d yX9_keepAct cX9_keepAct 2 none 11 [.ref l0, .int l1] [] M res := by
  intro n
  induction n with
  | zero =>
    intro l0 l1 M hl0 MX res h K
    simp [L_X9_keepAct_11] at h
  | succ n ih =>
    intro l0 l1 M hl0 MX res h K
    simp only [L_X9_keepAct_11] at h
    refine x_iload_n (pc := 11) dX9_keepAct_11 rfl rfl ?_
    refine x_sipush (pc := 12) dX9_keepAct_12 (v := 1035) (by decide) ?_
    refine x_icmp_ge (pc := 15) dX9_keepAct_15 (t := 39) rfl (fun c4 => ?_) (fun c4 => ?_)
    · rw [if_pos c4] at h
      obtain rfl := s1 h
      refine ex_weak (Ls2 := [.ref l0, .null]) ⟨Or.inr rfl, Or.inl rfl, trivial⟩ ?_
      exact K
    · rw [if_neg c4] at h
      refine x_aload_n (pc := 18) dX9_keepAct_18 rfl rfl hl0 ?_
      obtain ⟨v5, e6, h⟩ := ob h
      refine y_getR (pc := 19) dX9_keepAct_19 zf_X9_16 e6 ?_
      refine x_iload_n (pc := 22) dX9_keepAct_22 rfl rfl ?_
      refine x_aload_n (pc := 23) dX9_keepAct_23 rfl rfl hl0 ?_
      obtain ⟨v7, e8, h⟩ := ob h
      refine y_getR (pc := 24) dX9_keepAct_24 zf_X9_16 e8 ?_
      refine x_iload_n (pc := 27) dX9_keepAct_27 rfl rfl ?_
      refine x_bipush (pc := 28) dX9_keepAct_28 (v := 69) (by decide) ?_
      refine x_iadd (pc := 30) dX9_keepAct_30 ?_
      obtain ⟨v9, e10, h⟩ := ob h
      refine y_iald (pc := 31) dX9_keepAct_31 e10 ?_
      obtain ⟨M11, e12, h⟩ := ob h
      refine y_iast (pc := 32) dX9_keepAct_32 e12 ?_
      refine x_iinc (pc := 33) dX9_keepAct_33 rfl rfl (by decide) rfl ?_
      refine x_goto (pc := 36) dX9_keepAct_36 (t := 11) rfl ?_
      refine ex_weak (Ls2 := [.ref l0, .int (l1 + 1)]) ⟨Or.inr rfl, Or.inr rfl, trivial⟩ ?_
      exact ih _ _ _ hl0  _ h K
theorem LX_X9_keepAct_51 {G : zG} {d : Nat} : ∀ (n : Nat) (l0 : Nat) (l1 : Int32) (M : zM) (hl0 : l0 ≠ 0) (MX : zM) {res : Option Value × zM}, L_X9_keepAct_51 n l0 l1 M = some MX → Ex G d yX9_keepAct cX9_keepAct 2 none 83 [.ref l0, .null] [] MX res → Ex G d yX9_keepAct cX9_keepAct 2 none 51 [.ref l0, .int l1] [] M res := by
  intro n
  induction n with
  | zero =>
    intro l0 l1 M hl0 MX res h K
    simp [L_X9_keepAct_51] at h
  | succ n ih =>
    intro l0 l1 M hl0 MX res h K
    simp only [L_X9_keepAct_51] at h
    refine x_iload_n (pc := 51) dX9_keepAct_51 rfl rfl ?_
    refine x_bipush (pc := 52) dX9_keepAct_52 (v := 69) (by decide) ?_
    refine x_icmp_ge (pc := 54) dX9_keepAct_54 (t := 83) rfl (fun c10 => ?_) (fun c10 => ?_)
    · rw [if_pos c10] at h
      obtain rfl := s1 h
      refine ex_weak (Ls2 := [.ref l0, .null]) ⟨Or.inr rfl, Or.inl rfl, trivial⟩ ?_
      exact K
    · rw [if_neg c10] at h
      refine x_aload_n (pc := 57) dX9_keepAct_57 rfl rfl hl0 ?_
      obtain ⟨v11, e12, h⟩ := ob h
      refine y_getR (pc := 58) dX9_keepAct_58 zf_X9_16 e12 ?_
      refine x_bipush (pc := 61) dX9_keepAct_61 (v := 69) (by decide) ?_
      refine x_aload_n (pc := 63) dX9_keepAct_63 rfl rfl hl0 ?_
      obtain ⟨v13, e14, h⟩ := ob h
      refine y_getI (pc := 64) dX9_keepAct_64 zf_X9_219 e14 (by decide) ?_
      refine x_imul (pc := 67) dX9_keepAct_67 ?_
      refine x_iload_n (pc := 68) dX9_keepAct_68 rfl rfl ?_
      refine x_iadd (pc := 69) dX9_keepAct_69 ?_
      refine x_aload_n (pc := 70) dX9_keepAct_70 rfl rfl hl0 ?_
      obtain ⟨v15, e16, h⟩ := ob h
      refine y_getR (pc := 71) dX9_keepAct_71 zf_X9_7 e16 ?_
      refine x_iload_n (pc := 74) dX9_keepAct_74 rfl rfl ?_
      obtain ⟨v17, e18, h⟩ := ob h
      refine y_iald (pc := 75) dX9_keepAct_75 e18 ?_
      obtain ⟨M19, e20, h⟩ := ob h
      refine y_iast (pc := 76) dX9_keepAct_76 e20 ?_
      refine x_iinc (pc := 77) dX9_keepAct_77 rfl rfl (by decide) rfl ?_
      refine x_goto (pc := 80) dX9_keepAct_80 (t := 51) rfl ?_
      refine ex_weak (Ls2 := [.ref l0, .int (l1 + 1)]) ⟨Or.inr rfl, Or.inr rfl, trivial⟩ ?_
      exact ih _ _ _ hl0  _ h K
theorem E_X9_keepAct {G : zG} {d : Nat} {l0 : Nat} {M MR : zM} (h : f_X9_keepAct l0 M = some MR) : Ex G d yX9_keepAct cX9_keepAct 2 none 0 (zent0 [.ref l0] 2) [] M (none, MR) := by
  unfold f_X9_keepAct at h
  obtain ⟨zz0, h⟩ := bt h
  have hl0 := bz zz0
  show Ex _ _ _ _ _ _ 0 [.ref l0, .null] [] _ _
  refine x_aload_n (pc := 0) dX9_keepAct_0 rfl rfl hl0 ?_
  obtain ⟨v1, e2, h⟩ := ob h
  refine y_getI (pc := 1) dX9_keepAct_1 zf_X9_219 e2 (by decide) ?_
  refine x_bipush (pc := 4) dX9_keepAct_4 (v := 16) (by decide) ?_
  refine x_icmp_ne (pc := 6) dX9_keepAct_6 (t := 49) rfl (fun c3 => ?_) (fun c3 => ?_)
  · rw [if_neg c3] at h
    refine x_iconst (pc := 49) dX9_keepAct_49 (v := 0) rfl ?_
    refine x_istore_n (pc := 50) dX9_keepAct_50 rfl (by decide) rfl ?_
    obtain ⟨M17, e16, h⟩ := ob h
    refine ex_weak (Ls2 := [.ref l0, .int 0]) ⟨Or.inr rfl, Or.inr rfl, trivial⟩ ?_
    refine LX_X9_keepAct_51 zN _ _ _ hl0 _ e16 ?_
    refine x_aload_n (pc := 83) dX9_keepAct_83 rfl rfl hl0 ?_
    refine x_dup (pc := 84) dX9_keepAct_84 rv_cr ?_
    obtain ⟨v18, e19, h⟩ := ob h
    refine y_getI (pc := 85) dX9_keepAct_85 zf_X9_219 e19 (by decide) ?_
    refine x_iconst (pc := 88) dX9_keepAct_88 (v := 1) rfl ?_
    refine x_iadd (pc := 89) dX9_keepAct_89 ?_
    obtain ⟨M20, e21, h⟩ := ob h
    refine y_putI (pc := 90) dX9_keepAct_90 zf_X9_219 e21 ?_
    obtain rfl := s1 h
    exact x_vret (pc := 93) dX9_keepAct_93 rfl
  · rw [if_pos c3] at h
    refine x_iconst (pc := 9) dX9_keepAct_9 (v := 0) rfl ?_
    refine x_istore_n (pc := 10) dX9_keepAct_10 rfl (by decide) rfl ?_
    obtain ⟨M5, e4, h⟩ := ob h
    refine ex_weak (Ls2 := [.ref l0, .int 0]) ⟨Or.inr rfl, Or.inr rfl, trivial⟩ ?_
    refine LX_X9_keepAct_11 zN _ _ _ hl0 _ e4 ?_
    refine x_aload_n (pc := 39) dX9_keepAct_39 rfl rfl hl0 ?_
    refine x_dup (pc := 40) dX9_keepAct_40 rv_cr ?_
    obtain ⟨v6, e7, h⟩ := ob h
    refine y_getI (pc := 41) dX9_keepAct_41 zf_X9_219 e7 (by decide) ?_
    refine x_iconst (pc := 44) dX9_keepAct_44 (v := 1) rfl ?_
    refine x_isub (pc := 45) dX9_keepAct_45 ?_
    obtain ⟨M8, e9, h⟩ := ob h
    refine y_putI (pc := 46) dX9_keepAct_46 zf_X9_219 e9 ?_
    refine x_iconst (pc := 49) dX9_keepAct_49 (v := 0) rfl ?_
    refine x_istore_n (pc := 50) dX9_keepAct_50 rfl (by decide) rfl ?_
    obtain ⟨M11, e10, h⟩ := ob h
    refine ex_weak (Ls2 := [.ref l0, .int 0]) ⟨Or.inr rfl, Or.inr rfl, trivial⟩ ?_
    refine LX_X9_keepAct_51 zN _ _ _ hl0 _ e10 ?_
    refine x_aload_n (pc := 83) dX9_keepAct_83 rfl rfl hl0 ?_
    refine x_dup (pc := 84) dX9_keepAct_84 rv_cr ?_
    obtain ⟨v12, e13, h⟩ := ob h
    refine y_getI (pc := 85) dX9_keepAct_85 zf_X9_219 e13 (by decide) ?_
    refine x_iconst (pc := 88) dX9_keepAct_88 (v := 1) rfl ?_
    refine x_iadd (pc := 89) dX9_keepAct_89 ?_
    obtain ⟨M14, e15, h⟩ := ob h
    refine y_putI (pc := 90) dX9_keepAct_90 zf_X9_219 e15 ?_
    obtain rfl := s1 h
    exact x_vret (pc := 93) dX9_keepAct_93 rfl
def f_X9_canSay (l0 : Nat) (l1 : Int32) (l2 : Int32) (M : zM) : Option (Int32) := bif Nat.ble 1 l0 then ((aI M l0 ((29 + (8 * l1)) + l2)).bind fun v1 => if 0 < v1 then (some 1) else ((aI M l0 (13 + l2)).bind fun v4 => if v4 ≤ 0 then (some 0) else (some 1))) else none
theorem E_X9_canSay {G : zG} {d : Nat} {l0 : Nat} {l1 : Int32} {l2 : Int32} {M : zM} {r : Int32} (h : f_X9_canSay l0 l1 l2 M = some r) : Ex G d yX9_canSay cX9_canSay 3 (some .boolean) 0 (zent0 [.ref l0, .int l1, .int l2] 3) [] M (some (.int r), M) := by
  unfold f_X9_canSay at h
  obtain ⟨zz0, h⟩ := bt h
  have hl0 := bz zz0
  show Ex _ _ _ _ _ _ 0 [.ref l0, .int l1, .int l2] [] _ _
  refine x_aload_n (pc := 0) dX9_canSay_0 rfl rfl hl0 ?_
  refine x_bipush (pc := 1) dX9_canSay_1 (v := 29) (by decide) ?_
  refine x_bipush (pc := 3) dX9_canSay_3 (v := 8) (by decide) ?_
  refine x_iload_n (pc := 5) dX9_canSay_5 rfl rfl ?_
  refine x_imul (pc := 6) dX9_canSay_6 ?_
  refine x_iadd (pc := 7) dX9_canSay_7 ?_
  refine x_iload_n (pc := 8) dX9_canSay_8 rfl rfl ?_
  refine x_iadd (pc := 9) dX9_canSay_9 ?_
  obtain ⟨v1, e2, h⟩ := ob h
  refine y_iald (pc := 10) dX9_canSay_10 e2 ?_
  refine x_if_gt (pc := 11) dX9_canSay_11 (t := 23) rfl (fun c3 => ?_) (fun c3 => ?_)
  · rw [if_pos c3] at h
    refine x_iconst (pc := 23) dX9_canSay_23 (v := 1) rfl ?_
    refine x_goto (pc := 24) dX9_canSay_24 (t := 28) rfl ?_
    obtain rfl := s1 h
    exact x_ret (pc := 28) dX9_canSay_28 (ty := .boolean) rfl rfl
  · rw [if_neg c3] at h
    refine x_aload_n (pc := 14) dX9_canSay_14 rfl rfl hl0 ?_
    refine x_bipush (pc := 15) dX9_canSay_15 (v := 13) (by decide) ?_
    refine x_iload_n (pc := 17) dX9_canSay_17 rfl rfl ?_
    refine x_iadd (pc := 18) dX9_canSay_18 ?_
    obtain ⟨v4, e5, h⟩ := ob h
    refine y_iald (pc := 19) dX9_canSay_19 e5 ?_
    refine x_if_le (pc := 20) dX9_canSay_20 (t := 27) rfl (fun c6 => ?_) (fun c6 => ?_)
    · rw [if_pos c6] at h
      refine x_iconst (pc := 27) dX9_canSay_27 (v := 0) rfl ?_
      obtain rfl := s1 h
      exact x_ret (pc := 28) dX9_canSay_28 (ty := .boolean) rfl rfl
    · rw [if_neg c6] at h
      refine x_iconst (pc := 23) dX9_canSay_23 (v := 1) rfl ?_
      refine x_goto (pc := 24) dX9_canSay_24 (t := 28) rfl ?_
      obtain rfl := s1 h
      exact x_ret (pc := 28) dX9_canSay_28 (ty := .boolean) rfl rfl
def f_X9_says (l0 : Nat) (l1 : Int32) (l2 : Int32) (M : zM) : Option (zM) := bif Nat.ble 1 l0 then ((aI M l0 ((29 + (8 * l1)) + l2)).bind fun v1 => if v1 ≤ 0 then ((aI M l0 (13 + l2)).bind fun v4 => (sI M l0 (13 + l2) (v4 - 1)).bind fun M6 => (aI M6 l0 (21 + l2)).bind fun v8 => (f_X9_up v8 1 M6).bind fun r10 => (sI M6 l0 (21 + l2) r10).bind fun M12 => some M12) else ((aI M l0 ((29 + (8 * l1)) + l2)).bind fun v14 => (sI M l0 ((29 + (8 * l1)) + l2) (v14 - 1)).bind fun M16 => (aI M16 l0 (21 + l2)).bind fun v18 => (f_X9_up v18 1 M16).bind fun r20 => (sI M16 l0 (21 + l2) r20).bind fun M22 => some M22)) else none
theorem E_X9_says {G : zG} {d : Nat} {l0 : Nat} {l1 : Int32} {l2 : Int32} {M MR : zM} (h : f_X9_says l0 l1 l2 M = some MR) : Ex G (d + 1) yX9_says cX9_says 3 none 0 (zent0 [.ref l0, .int l1, .int l2] 3) [] M (none, MR) := by
  unfold f_X9_says at h
  obtain ⟨zz0, h⟩ := bt h
  have hl0 := bz zz0
  show Ex _ _ _ _ _ _ 0 [.ref l0, .int l1, .int l2] [] _ _
  refine x_aload_n (pc := 0) dX9_says_0 rfl rfl hl0 ?_
  refine x_bipush (pc := 1) dX9_says_1 (v := 29) (by decide) ?_
  refine x_bipush (pc := 3) dX9_says_3 (v := 8) (by decide) ?_
  refine x_iload_n (pc := 5) dX9_says_5 rfl rfl ?_
  refine x_imul (pc := 6) dX9_says_6 ?_
  refine x_iadd (pc := 7) dX9_says_7 ?_
  refine x_iload_n (pc := 8) dX9_says_8 rfl rfl ?_
  refine x_iadd (pc := 9) dX9_says_9 ?_
  obtain ⟨v1, e2, h⟩ := ob h
  refine y_iald (pc := 10) dX9_says_10 e2 ?_
  refine x_if_le (pc := 11) dX9_says_11 (t := 32) rfl (fun c3 => ?_) (fun c3 => ?_)
  · rw [if_pos c3] at h
    refine x_aload_n (pc := 32) dX9_says_32 rfl rfl hl0 ?_
    refine x_bipush (pc := 33) dX9_says_33 (v := 13) (by decide) ?_
    refine x_iload_n (pc := 35) dX9_says_35 rfl rfl ?_
    refine x_iadd (pc := 36) dX9_says_36 ?_
    refine x_dup2 (pc := 37) dX9_says_37 rfl rv_cr ?_
    obtain ⟨v4, e5, h⟩ := ob h
    refine y_iald (pc := 38) dX9_says_38 e5 ?_
    refine x_iconst (pc := 39) dX9_says_39 (v := 1) rfl ?_
    refine x_isub (pc := 40) dX9_says_40 ?_
    obtain ⟨M6, e7, h⟩ := ob h
    refine y_iast (pc := 41) dX9_says_41 e7 ?_
    refine x_aload_n (pc := 42) dX9_says_42 rfl rfl hl0 ?_
    refine x_bipush (pc := 43) dX9_says_43 (v := 21) (by decide) ?_
    refine x_iload_n (pc := 45) dX9_says_45 rfl rfl ?_
    refine x_iadd (pc := 46) dX9_says_46 ?_
    refine x_aload_n (pc := 47) dX9_says_47 rfl rfl hl0 ?_
    refine x_bipush (pc := 48) dX9_says_48 (v := 21) (by decide) ?_
    refine x_iload_n (pc := 50) dX9_says_50 rfl rfl ?_
    refine x_iadd (pc := 51) dX9_says_51 ?_
    obtain ⟨v8, e9, h⟩ := ob h
    refine y_iald (pc := 52) dX9_says_52 e9 ?_
    refine x_iconst (pc := 53) dX9_says_53 (v := 1) rfl ?_
    obtain ⟨r10, e11, h⟩ := ob h
    refine x_callS (av := [.int v8, .int 1]) (st := [.int (21 + l2), .ref l0]) (pc := 54) dX9_says_54 (E_X9_up (d := d) e11) rfl (Nat.le_of_ble_eq_true rfl) zc_X9_up rfl zm_X9_254 zs_X9_up rfl (zst_ok rfl (Nat.le_of_ble_eq_true rfl)) rfl ?_
    obtain ⟨M12, e13, h⟩ := ob h
    refine y_iast (pc := 57) dX9_says_57 e13 ?_
    obtain rfl := s1 h
    exact x_vret (pc := 58) dX9_says_58 rfl
  · rw [if_neg c3] at h
    refine x_aload_n (pc := 14) dX9_says_14 rfl rfl hl0 ?_
    refine x_bipush (pc := 15) dX9_says_15 (v := 29) (by decide) ?_
    refine x_bipush (pc := 17) dX9_says_17 (v := 8) (by decide) ?_
    refine x_iload_n (pc := 19) dX9_says_19 rfl rfl ?_
    refine x_imul (pc := 20) dX9_says_20 ?_
    refine x_iadd (pc := 21) dX9_says_21 ?_
    refine x_iload_n (pc := 22) dX9_says_22 rfl rfl ?_
    refine x_iadd (pc := 23) dX9_says_23 ?_
    refine x_dup2 (pc := 24) dX9_says_24 rfl rv_cr ?_
    obtain ⟨v14, e15, h⟩ := ob h
    refine y_iald (pc := 25) dX9_says_25 e15 ?_
    refine x_iconst (pc := 26) dX9_says_26 (v := 1) rfl ?_
    refine x_isub (pc := 27) dX9_says_27 ?_
    obtain ⟨M16, e17, h⟩ := ob h
    refine y_iast (pc := 28) dX9_says_28 e17 ?_
    refine x_goto (pc := 29) dX9_says_29 (t := 42) rfl ?_
    refine x_aload_n (pc := 42) dX9_says_42 rfl rfl hl0 ?_
    refine x_bipush (pc := 43) dX9_says_43 (v := 21) (by decide) ?_
    refine x_iload_n (pc := 45) dX9_says_45 rfl rfl ?_
    refine x_iadd (pc := 46) dX9_says_46 ?_
    refine x_aload_n (pc := 47) dX9_says_47 rfl rfl hl0 ?_
    refine x_bipush (pc := 48) dX9_says_48 (v := 21) (by decide) ?_
    refine x_iload_n (pc := 50) dX9_says_50 rfl rfl ?_
    refine x_iadd (pc := 51) dX9_says_51 ?_
    obtain ⟨v18, e19, h⟩ := ob h
    refine y_iald (pc := 52) dX9_says_52 e19 ?_
    refine x_iconst (pc := 53) dX9_says_53 (v := 1) rfl ?_
    obtain ⟨r20, e21, h⟩ := ob h
    refine x_callS (av := [.int v18, .int 1]) (st := [.int (21 + l2), .ref l0]) (pc := 54) dX9_says_54 (E_X9_up (d := d) e21) rfl (Nat.le_of_ble_eq_true rfl) zc_X9_up rfl zm_X9_254 zs_X9_up rfl (zst_ok rfl (Nat.le_of_ble_eq_true rfl)) rfl ?_
    obtain ⟨M22, e23, h⟩ := ob h
    refine y_iast (pc := 57) dX9_says_57 e23 ?_
    obtain rfl := s1 h
    exact x_vret (pc := 58) dX9_says_58 rfl
def L_X9_canGo_13 : Nat → Nat → Int32 → Int32 → Int32 → Int32 → zM → Option (Int32)
  | 0, _, _, _, _, _, _ => none
  | n + 1, l0, l1, l2, l3, l4, M => if 8 ≤ l4 then (some l3) else (if l3 = 0 then (L_X9_canGo_13 n l0 l1 l2 0 (l4 + 1) M) else ((f_X9_has l2 l4 M).bind fun r4 => if r4 = 0 then (L_X9_canGo_13 n l0 l1 l2 1 (l4 + 1) M) else ((f_X9_canSay l0 l1 l4 M).bind fun r7 => if r7 = 0 then (L_X9_canGo_13 n l0 l1 l2 0 (l4 + 1) M) else (L_X9_canGo_13 n l0 l1 l2 1 (l4 + 1) M))))
def f_X9_canGo (l0 : Nat) (l1 : Int32) (l2 : Int32) (M : zM) : Option (Int32) := bif Nat.ble 1 l0 then (if l2 = 0 then ((L_X9_canGo_13 zN l0 l1 l2 0 0 M).bind fun v3 => (zb v3).bind fun v4 => some v4) else ((L_X9_canGo_13 zN l0 l1 l2 1 0 M).bind fun v7 => (zb v7).bind fun v8 => some v8)) else none
theorem LX_X9_canGo_13 {G : zG} {d : Nat} : ∀ (n : Nat) (l0 : Nat) (l1 : Int32) (l2 : Int32) (l3 : Int32) (l4 : Int32) (M : zM) (hl0 : l0 ≠ 0) (o3 : Int32) {res : Option Value × zM}, L_X9_canGo_13 n l0 l1 l2 l3 l4 M = some o3 → Ex G (d + 1) yX9_canGo cX9_canGo 5 (some .boolean) 55 [.null, .null, .null, .int o3, .null] [] M res → Ex G (d + 1) yX9_canGo cX9_canGo 5 (some .boolean) 13 [.ref l0, .int l1, .int l2, .int l3, .int l4] [] M res := by
  intro n
  induction n with
  | zero =>
    intro l0 l1 l2 l3 l4 M hl0 o3 res h K
    simp [L_X9_canGo_13] at h
  | succ n ih =>
    intro l0 l1 l2 l3 l4 M hl0 o3 res h K
    simp only [L_X9_canGo_13] at h
    refine x_iload (pc := 13) dX9_canGo_13 rfl ?_
    refine x_bipush (pc := 15) dX9_canGo_15 (v := 8) (by decide) ?_
    refine x_icmp_ge (pc := 17) dX9_canGo_17 (t := 55) rfl (fun c2 => ?_) (fun c2 => ?_)
    · rw [if_pos c2] at h
      obtain rfl := s1 h
      refine ex_weak (Ls2 := [.null, .null, .null, .int l3, .null]) ⟨Or.inl rfl, Or.inl rfl, Or.inl rfl, Or.inr rfl, Or.inl rfl, trivial⟩ ?_
      exact K
    · rw [if_neg c2] at h
      refine x_iload_n (pc := 20) dX9_canGo_20 rfl rfl ?_
      refine x_if_eq (pc := 21) dX9_canGo_21 (t := 47) rfl (fun c3 => ?_) (fun c3 => ?_)
      · rw [if_pos c3] at h
        refine x_iconst (pc := 47) dX9_canGo_47 (v := 0) rfl ?_
        refine x_istore_n (pc := 48) dX9_canGo_48 rfl (by decide) rfl ?_
        refine x_iinc (pc := 49) dX9_canGo_49 rfl rfl (by decide) rfl ?_
        refine x_goto (pc := 52) dX9_canGo_52 (t := 13) rfl ?_
        refine ex_weak (Ls2 := [.ref l0, .int l1, .int l2, .int 0, .int (l4 + 1)]) ⟨Or.inr rfl, Or.inr rfl, Or.inr rfl, Or.inr rfl, Or.inr rfl, trivial⟩ ?_
        exact ih _ _ _ _ _ _ hl0 _ h K
      · rw [if_neg c3] at h
        refine x_iload_n (pc := 24) dX9_canGo_24 rfl rfl ?_
        refine x_iload (pc := 25) dX9_canGo_25 rfl ?_
        obtain ⟨r4, e5, h⟩ := ob h
        refine x_callS (av := [.int l2, .int l4]) (st := []) (pc := 27) dX9_canGo_27 (E_X9_has (d := d) e5) rfl (Nat.le_of_ble_eq_true rfl) zc_X9_has rfl zm_X9_178 zs_X9_has rfl (zst_ok rfl (Nat.le_of_ble_eq_true rfl)) rfl ?_
        refine x_if_eq (pc := 30) dX9_canGo_30 (t := 43) rfl (fun c6 => ?_) (fun c6 => ?_)
        · rw [if_pos c6] at h
          refine x_iconst (pc := 43) dX9_canGo_43 (v := 1) rfl ?_
          refine x_goto (pc := 44) dX9_canGo_44 (t := 48) rfl ?_
          refine x_istore_n (pc := 48) dX9_canGo_48 rfl (by decide) rfl ?_
          refine x_iinc (pc := 49) dX9_canGo_49 rfl rfl (by decide) rfl ?_
          refine x_goto (pc := 52) dX9_canGo_52 (t := 13) rfl ?_
          refine ex_weak (Ls2 := [.ref l0, .int l1, .int l2, .int 1, .int (l4 + 1)]) ⟨Or.inr rfl, Or.inr rfl, Or.inr rfl, Or.inr rfl, Or.inr rfl, trivial⟩ ?_
          exact ih _ _ _ _ _ _ hl0 _ h K
        · rw [if_neg c6] at h
          refine x_aload_n (pc := 33) dX9_canGo_33 rfl rfl hl0 ?_
          refine x_iload_n (pc := 34) dX9_canGo_34 rfl rfl ?_
          refine x_iload (pc := 35) dX9_canGo_35 rfl ?_
          obtain ⟨r7, e8, h⟩ := ob h
          refine x_callS (av := [.ref l0, .int l1, .int l4]) (st := []) (pc := 37) dX9_canGo_37 (E_X9_canSay (d := d) e8) rfl (Nat.le_of_ble_eq_true rfl) zc_X9_canSay rfl zm_X9_257 zs_X9_canSay rfl (zst_ok rfl (Nat.le_of_ble_eq_true rfl)) rfl ?_
          refine x_if_eq (pc := 40) dX9_canGo_40 (t := 47) rfl (fun c9 => ?_) (fun c9 => ?_)
          · rw [if_pos c9] at h
            refine x_iconst (pc := 47) dX9_canGo_47 (v := 0) rfl ?_
            refine x_istore_n (pc := 48) dX9_canGo_48 rfl (by decide) rfl ?_
            refine x_iinc (pc := 49) dX9_canGo_49 rfl rfl (by decide) rfl ?_
            refine x_goto (pc := 52) dX9_canGo_52 (t := 13) rfl ?_
            refine ex_weak (Ls2 := [.ref l0, .int l1, .int l2, .int 0, .int (l4 + 1)]) ⟨Or.inr rfl, Or.inr rfl, Or.inr rfl, Or.inr rfl, Or.inr rfl, trivial⟩ ?_
            exact ih _ _ _ _ _ _ hl0 _ h K
          · rw [if_neg c9] at h
            refine x_iconst (pc := 43) dX9_canGo_43 (v := 1) rfl ?_
            refine x_goto (pc := 44) dX9_canGo_44 (t := 48) rfl ?_
            refine x_istore_n (pc := 48) dX9_canGo_48 rfl (by decide) rfl ?_
            refine x_iinc (pc := 49) dX9_canGo_49 rfl rfl (by decide) rfl ?_
            refine x_goto (pc := 52) dX9_canGo_52 (t := 13) rfl ?_
            refine ex_weak (Ls2 := [.ref l0, .int l1, .int l2, .int 1, .int (l4 + 1)]) ⟨Or.inr rfl, Or.inr rfl, Or.inr rfl, Or.inr rfl, Or.inr rfl, trivial⟩ ?_
            exact ih _ _ _ _ _ _ hl0 _ h K
theorem E_X9_canGo {G : zG} {d : Nat} {l0 : Nat} {l1 : Int32} {l2 : Int32} {M : zM} {r : Int32} (h : f_X9_canGo l0 l1 l2 M = some r) : Ex G (d + 1) yX9_canGo cX9_canGo 5 (some .boolean) 0 (zent0 [.ref l0, .int l1, .int l2] 5) [] M (some (.int r), M) := by
  unfold f_X9_canGo at h
  obtain ⟨zz0, h⟩ := bt h
  have hl0 := bz zz0
  show Ex _ _ _ _ _ _ 0 [.ref l0, .int l1, .int l2, .null, .null] [] _ _
  refine x_iload_n (pc := 0) dX9_canGo_0 rfl rfl ?_
  refine x_if_eq (pc := 1) dX9_canGo_1 (t := 8) rfl (fun c1 => ?_) (fun c1 => ?_)
  · rw [if_pos c1] at h
    refine x_iconst (pc := 8) dX9_canGo_8 (v := 0) rfl ?_
    refine x_istore_n (pc := 9) dX9_canGo_9 rfl (by decide) rfl ?_
    refine x_iconst (pc := 10) dX9_canGo_10 (v := 0) rfl ?_
    refine x_istore (pc := 11) dX9_canGo_11 (by decide) rfl ?_
    obtain ⟨v3, e2, h⟩ := ob h
    refine ex_weak (Ls2 := [.ref l0, .int l1, .int l2, .int 0, .int 0]) ⟨Or.inr rfl, Or.inr rfl, Or.inr rfl, Or.inr rfl, Or.inr rfl, trivial⟩ ?_
    refine LX_X9_canGo_13 zN _ _ _ _ _ _ hl0 _ e2 ?_
    refine x_iload_n (pc := 55) dX9_canGo_55 rfl rfl ?_
    obtain ⟨v4, e5, h⟩ := ob h
    obtain rfl := s1 h
    exact y_retZ (pc := 56) dX9_canGo_56 rfl e5
  · rw [if_neg c1] at h
    refine x_iconst (pc := 4) dX9_canGo_4 (v := 1) rfl ?_
    refine x_goto (pc := 5) dX9_canGo_5 (t := 9) rfl ?_
    refine x_istore_n (pc := 9) dX9_canGo_9 rfl (by decide) rfl ?_
    refine x_iconst (pc := 10) dX9_canGo_10 (v := 0) rfl ?_
    refine x_istore (pc := 11) dX9_canGo_11 (by decide) rfl ?_
    obtain ⟨v7, e6, h⟩ := ob h
    refine ex_weak (Ls2 := [.ref l0, .int l1, .int l2, .int 1, .int 0]) ⟨Or.inr rfl, Or.inr rfl, Or.inr rfl, Or.inr rfl, Or.inr rfl, trivial⟩ ?_
    refine LX_X9_canGo_13 zN _ _ _ _ _ _ hl0 _ e6 ?_
    refine x_iload_n (pc := 55) dX9_canGo_55 rfl rfl ?_
    obtain ⟨v8, e9, h⟩ := ob h
    obtain rfl := s1 h
    exact y_retZ (pc := 56) dX9_canGo_56 rfl e9
def L_X9_goes_2 : Nat → Nat → Int32 → Int32 → Int32 → zM → Option (zM)
  | 0, _, _, _, _, _ => none
  | n + 1, l0, l1, l2, l3, M => if 8 ≤ l3 then (some M) else ((f_X9_has l2 l3 M).bind fun r2 => if r2 = 0 then (L_X9_goes_2 n l0 l1 l2 (l3 + 1) M) else ((f_X9_says l0 l1 l3 M).bind fun M5 => L_X9_goes_2 n l0 l1 l2 (l3 + 1) M5))
def f_X9_goes (l0 : Nat) (l1 : Int32) (l2 : Int32) (M : zM) : Option (zM) := bif Nat.ble 1 l0 then ((L_X9_goes_2 zN l0 l1 l2 0 M).bind fun M2 => some M2) else none
theorem LX_X9_goes_2 {G : zG} {d : Nat} : ∀ (n : Nat) (l0 : Nat) (l1 : Int32) (l2 : Int32) (l3 : Int32) (M : zM) (hl0 : l0 ≠ 0) (MX : zM) {res : Option Value × zM}, L_X9_goes_2 n l0 l1 l2 l3 M = some MX → Ex G (d + 2) yX9_goes cX9_goes 4 none 28 [.null, .null, .null, .null] [] MX res → Ex G (d + 2) yX9_goes cX9_goes 4 none 2 [.ref l0, .int l1, .int l2, .int l3] [] M res := by
  intro n
  induction n with
  | zero =>
    intro l0 l1 l2 l3 M hl0 MX res h K
    simp [L_X9_goes_2] at h
  | succ n ih =>
    intro l0 l1 l2 l3 M hl0 MX res h K
    simp only [L_X9_goes_2] at h
    refine x_iload_n (pc := 2) dX9_goes_2 rfl rfl ?_
    refine x_bipush (pc := 3) dX9_goes_3 (v := 8) (by decide) ?_
    refine x_icmp_ge (pc := 5) dX9_goes_5 (t := 28) rfl (fun c1 => ?_) (fun c1 => ?_)
    · rw [if_pos c1] at h
      obtain rfl := s1 h
      refine ex_weak (Ls2 := [.null, .null, .null, .null]) ⟨Or.inl rfl, Or.inl rfl, Or.inl rfl, Or.inl rfl, trivial⟩ ?_
      exact K
    · rw [if_neg c1] at h
      refine x_iload_n (pc := 8) dX9_goes_8 rfl rfl ?_
      refine x_iload_n (pc := 9) dX9_goes_9 rfl rfl ?_
      obtain ⟨r2, e3, h⟩ := ob h
      refine x_callS (av := [.int l2, .int l3]) (st := []) (pc := 10) dX9_goes_10 (E_X9_has (d := d + 1) e3) rfl (Nat.le_of_ble_eq_true rfl) zc_X9_has rfl zm_X9_178 zs_X9_has rfl (zst_ok rfl (Nat.le_of_ble_eq_true rfl)) rfl ?_
      refine x_if_eq (pc := 13) dX9_goes_13 (t := 22) rfl (fun c4 => ?_) (fun c4 => ?_)
      · rw [if_pos c4] at h
        refine x_iinc (pc := 22) dX9_goes_22 rfl rfl (by decide) rfl ?_
        refine x_goto (pc := 25) dX9_goes_25 (t := 2) rfl ?_
        refine ex_weak (Ls2 := [.ref l0, .int l1, .int l2, .int (l3 + 1)]) ⟨Or.inr rfl, Or.inr rfl, Or.inr rfl, Or.inr rfl, trivial⟩ ?_
        exact ih _ _ _ _ _ hl0  _ h K
      · rw [if_neg c4] at h
        refine x_aload_n (pc := 16) dX9_goes_16 rfl rfl hl0 ?_
        refine x_iload_n (pc := 17) dX9_goes_17 rfl rfl ?_
        refine x_iload_n (pc := 18) dX9_goes_18 rfl rfl ?_
        obtain ⟨M5, e6, h⟩ := ob h
        refine x_callS (av := [.ref l0, .int l1, .int l3]) (st := []) (pc := 19) dX9_goes_19 (E_X9_says (d := d) e6) rfl (Nat.le_of_ble_eq_true rfl) zc_X9_says rfl zm_X9_261 zs_X9_says rfl (zst_ok rfl (Nat.le_of_ble_eq_true rfl)) rfl ?_
        refine x_iinc (pc := 22) dX9_goes_22 rfl rfl (by decide) rfl ?_
        refine x_goto (pc := 25) dX9_goes_25 (t := 2) rfl ?_
        refine ex_weak (Ls2 := [.ref l0, .int l1, .int l2, .int (l3 + 1)]) ⟨Or.inr rfl, Or.inr rfl, Or.inr rfl, Or.inr rfl, trivial⟩ ?_
        exact ih _ _ _ _ _ hl0  _ h K
theorem E_X9_goes {G : zG} {d : Nat} {l0 : Nat} {l1 : Int32} {l2 : Int32} {M MR : zM} (h : f_X9_goes l0 l1 l2 M = some MR) : Ex G (d + 2) yX9_goes cX9_goes 4 none 0 (zent0 [.ref l0, .int l1, .int l2] 4) [] M (none, MR) := by
  unfold f_X9_goes at h
  obtain ⟨zz0, h⟩ := bt h
  have hl0 := bz zz0
  show Ex _ _ _ _ _ _ 0 [.ref l0, .int l1, .int l2, .null] [] _ _
  refine x_iconst (pc := 0) dX9_goes_0 (v := 0) rfl ?_
  refine x_istore_n (pc := 1) dX9_goes_1 rfl (by decide) rfl ?_
  obtain ⟨M2, e1, h⟩ := ob h
  refine ex_weak (Ls2 := [.ref l0, .int l1, .int l2, .int 0]) ⟨Or.inr rfl, Or.inr rfl, Or.inr rfl, Or.inr rfl, trivial⟩ ?_
  refine LX_X9_goes_2 zN _ _ _ _ _ hl0 _ e1 ?_
  obtain rfl := s1 h
  exact x_vret (pc := 28) dX9_goes_28 rfl
def L_X9_meets_35 : Nat → Nat → Nat → Int32 → Int32 → Int32 → zM → Option ((Int32 × zM) ⊕ (zM))
  | 0, _, _, _, _, _, _ => none
  | n + 1, l0, l1, l3, l4, l5, M => if 2 ≤ l5 then (some (.inr M)) else ((oR M l0 9 58 11).bind fun v9 => (aI M v9 ((2 * l4) + l5)).bind fun v11 => (f_X9_canGo l1 l3 v11 M).bind fun r13 => if r13 = 0 then (L_X9_meets_35 n l0 l1 l3 l4 (l5 + 1) M) else ((oR M l0 9 58 11).bind fun v16 => (aI M v16 ((2 * l4) + l5)).bind fun v18 => (f_X9_goes l1 l3 v18 M).bind fun M20 => some (.inl (1, M20))))
def f_X9_meets (l0 : Nat) (l1 : Nat) (l2 : Int32) (M : zM) : Option (Int32 × zM) := bif Nat.ble 1 l0 then (bif Nat.ble 1 l1 then (bif zac M l0 9 58 then ((f_X9_person l0 l2 M).bind fun r1 => bif zac M l0 9 58 then ((f_X9_wordOf l0 l2 M).bind fun r3 => (f_X9_canSay l1 r1 r3 M).bind fun r5 => if r5 = 0 then (bs (L_X9_meets_35 zN l0 l1 r1 r3 0 M) some (fun M9 => (oR M9 l0 9 58 12).bind fun v10 => (aZ M9 v10 r3).bind fun v12 => if v12 = 0 then ((oR M9 l0 9 58 12).bind fun v15 => (aZ M9 v15 r3).bind fun v17 => (zb v17).bind fun v19 => some (v19, M9)) else ((aI M9 l1 4).bind fun v21 => (f_X9_up v21 1 M9).bind fun r23 => (sI M9 l1 4 r23).bind fun M25 => (oR M25 l0 9 58 12).bind fun v27 => (aZ M25 v27 r3).bind fun v29 => (zb v29).bind fun v31 => some (v31, M25)))) else ((f_X9_says l1 r1 r3 M).bind fun M35 => some (1, M35))) else none) else none) else none) else none
set_option maxRecDepth 100000 in
set_option maxHeartbeats 2000000 in
theorem LX_X9_meets_35 {G : zG} {d : Nat} : ∀ (n : Nat) (l0 : Nat) (l1 : Nat) (l3 : Int32) (l4 : Int32) (l5 : Int32) (M : zM) (hl0 : l0 ≠ 0) (hl1 : l1 ≠ 0) (e : (Int32 × zM) ⊕ (zM)) {res : Option Value × zM}, L_X9_meets_35 n l0 l1 l3 l4 l5 M = some e → (∀ r, e = .inl r → res = (some (.int r.1), r.2)) → (∀ (MX : zM), e = .inr MX → Ex G (d + 3) yX9_meets cX9_meets 6 (some .boolean) 86 [.ref l0, .ref l1, .null, .null, .int l4, .null] [] MX res) → Ex G (d + 3) yX9_meets cX9_meets 6 (some .boolean) 35 [.ref l0, .ref l1, .null, .int l3, .int l4, .int l5] [] M res := by
  intro n
  induction n with
  | zero =>
    intro l0 l1 l3 l4 l5 M hl0 hl1 e res h K1 K2
    simp [L_X9_meets_35] at h
  | succ n ih =>
    intro l0 l1 l3 l4 l5 M hl0 hl1 e res h K1 K2
    simp only [L_X9_meets_35] at h
    refine x_iload (pc := 35) dX9_meets_35 rfl ?_
    refine x_iconst (pc := 37) dX9_meets_37 (v := 2) rfl ?_
    refine x_icmp_ge (pc := 38) dX9_meets_38 (t := 86) rfl (fun c8 => ?_) (fun c8 => ?_)
    · rw [if_pos c8] at h
      obtain rfl := s1 h
      refine ex_weak (Ls2 := [.ref l0, .ref l1, .null, .null, .int l4, .null]) ⟨Or.inr rfl, Or.inr rfl, Or.inl rfl, Or.inl rfl, Or.inr rfl, Or.inl rfl, trivial⟩ ?_
      exact K2 _ rfl
    · rw [if_neg c8] at h
      refine x_aload_n (pc := 41) dX9_meets_41 rfl rfl hl1 ?_
      refine x_iload_n (pc := 42) dX9_meets_42 rfl rfl ?_
      refine x_aload_n (pc := 43) dX9_meets_43 rfl rfl hl0 ?_
      obtain ⟨v9, e10, h⟩ := ob h
      refine y_getR (pc := 44) dX9_meets_44 zf_X9_25 e10 ?_
      refine x_iconst (pc := 47) dX9_meets_47 (v := 2) rfl ?_
      refine x_iload (pc := 48) dX9_meets_48 rfl ?_
      refine x_imul (pc := 50) dX9_meets_50 ?_
      refine x_iload (pc := 51) dX9_meets_51 rfl ?_
      refine x_iadd (pc := 53) dX9_meets_53 ?_
      obtain ⟨v11, e12, h⟩ := ob h
      refine y_iald (pc := 54) dX9_meets_54 e12 ?_
      obtain ⟨r13, e14, h⟩ := ob h
      refine x_callS (av := [.ref l1, .int l3, .int v11]) (st := []) (pc := 55) dX9_meets_55 (E_X9_canGo (d := d + 1) e14) rfl (Nat.le_of_ble_eq_true rfl) zc_X9_canGo rfl zm_X9_271 zs_X9_canGo rfl (zst_ok rfl (Nat.le_of_ble_eq_true rfl)) rfl ?_
      refine x_if_eq (pc := 58) dX9_meets_58 (t := 80) rfl (fun c15 => ?_) (fun c15 => ?_)
      · rw [if_pos c15] at h
        refine x_iinc (pc := 80) dX9_meets_80 rfl rfl (by decide) rfl ?_
        refine x_goto (pc := 83) dX9_meets_83 (t := 35) rfl ?_
        refine ex_weak (Ls2 := [.ref l0, .ref l1, .null, .int l3, .int l4, .int (l5 + 1)]) ⟨Or.inr rfl, Or.inr rfl, Or.inl rfl, Or.inr rfl, Or.inr rfl, Or.inr rfl, trivial⟩ ?_
        exact ih _ _ _ _ _ _ hl0 hl1 _ h K1 K2
      · rw [if_neg c15] at h
        refine x_aload_n (pc := 61) dX9_meets_61 rfl rfl hl1 ?_
        refine x_iload_n (pc := 62) dX9_meets_62 rfl rfl ?_
        refine x_aload_n (pc := 63) dX9_meets_63 rfl rfl hl0 ?_
        obtain ⟨v16, e17, h⟩ := ob h
        refine y_getR (pc := 64) dX9_meets_64 zf_X9_25 e17 ?_
        refine x_iconst (pc := 67) dX9_meets_67 (v := 2) rfl ?_
        refine x_iload (pc := 68) dX9_meets_68 rfl ?_
        refine x_imul (pc := 70) dX9_meets_70 ?_
        refine x_iload (pc := 71) dX9_meets_71 rfl ?_
        refine x_iadd (pc := 73) dX9_meets_73 ?_
        obtain ⟨v18, e19, h⟩ := ob h
        refine y_iald (pc := 74) dX9_meets_74 e19 ?_
        obtain ⟨M20, e21, h⟩ := ob h
        refine x_callS (av := [.ref l1, .int l3, .int v18]) (st := []) (pc := 75) dX9_meets_75 (E_X9_goes (d := d) e21) rfl (Nat.le_of_ble_eq_true rfl) zc_X9_goes rfl zm_X9_274 zs_X9_goes rfl (zst_ok rfl (Nat.le_of_ble_eq_true rfl)) rfl ?_
        refine x_iconst (pc := 78) dX9_meets_78 (v := 1) rfl ?_
        obtain rfl := s1 h
        rw [K1 _ rfl]
        exact x_ret (pc := 79) dX9_meets_79 (ty := .boolean) rfl rfl
set_option maxRecDepth 100000 in
set_option maxHeartbeats 2000000 in
theorem E_X9_meets {G : zG} {d : Nat} {l0 : Nat} {l1 : Nat} {l2 : Int32} {M MR : zM} {r : Int32} (h : f_X9_meets l0 l1 l2 M = some (r, MR)) : Ex G (d + 3) yX9_meets cX9_meets 6 (some .boolean) 0 (zent0 [.ref l0, .ref l1, .int l2] 6) [] M (some (.int r), MR) := by
  unfold f_X9_meets at h
  obtain ⟨zz0, h⟩ := bt h
  have hl0 := bz zz0
  obtain ⟨zz1, h⟩ := bt h
  have hl1 := bz zz1
  show Ex _ _ _ _ _ _ 0 [.ref l0, .ref l1, .int l2, .null, .null, .null] [] _ _
  refine x_aload_n (pc := 0) dX9_meets_0 rfl rfl hl0 ?_
  refine x_iload_n (pc := 1) dX9_meets_1 rfl rfl ?_
  obtain ⟨g38, h⟩ := bt h
  obtain ⟨r1, e2, h⟩ := ob h
  refine x_callV (av := [.int l2]) (st := []) (pc := 2) dX9_meets_2 (E_X9_person (d := d + 2) e2) rfl (Nat.le_of_ble_eq_true rfl) zc_X9_person rfl zm_X9_265 zi_X9_person zs_X9_person (zac_ok g38) (by decide) rfl rfl (zst_ok rfl (Nat.le_of_ble_eq_true rfl)) rfl ?_
  refine x_istore_n (pc := 5) dX9_meets_5 rfl (by decide) rfl ?_
  refine x_aload_n (pc := 6) dX9_meets_6 rfl rfl hl0 ?_
  refine x_iload_n (pc := 7) dX9_meets_7 rfl rfl ?_
  obtain ⟨g37, h⟩ := bt h
  obtain ⟨r3, e4, h⟩ := ob h
  refine x_callV (av := [.int l2]) (st := []) (pc := 8) dX9_meets_8 (E_X9_wordOf (d := d + 2) e4) rfl (Nat.le_of_ble_eq_true rfl) zc_X9_wordOf rfl zm_X9_268 zi_X9_wordOf zs_X9_wordOf (zac_ok g37) (by decide) rfl rfl (zst_ok rfl (Nat.le_of_ble_eq_true rfl)) rfl ?_
  refine x_istore (pc := 11) dX9_meets_11 (by decide) rfl ?_
  refine x_aload_n (pc := 13) dX9_meets_13 rfl rfl hl1 ?_
  refine x_iload_n (pc := 14) dX9_meets_14 rfl rfl ?_
  refine x_iload (pc := 15) dX9_meets_15 rfl ?_
  obtain ⟨r5, e6, h⟩ := ob h
  refine x_callS (av := [.ref l1, .int r1, .int r3]) (st := []) (pc := 17) dX9_meets_17 (E_X9_canSay (d := d + 2) e6) rfl (Nat.le_of_ble_eq_true rfl) zc_X9_canSay rfl zm_X9_257 zs_X9_canSay rfl (zst_ok rfl (Nat.le_of_ble_eq_true rfl)) rfl ?_
  refine x_if_eq (pc := 20) dX9_meets_20 (t := 32) rfl (fun c7 => ?_) (fun c7 => ?_)
  · rw [if_pos c7] at h
    refine x_iconst (pc := 32) dX9_meets_32 (v := 0) rfl ?_
    refine x_istore (pc := 33) dX9_meets_33 (by decide) rfl ?_
    refine ex_weak (Ls2 := [.ref l0, .ref l1, .null, .int r1, .int r3, .int 0]) ⟨Or.inr rfl, Or.inr rfl, Or.inl rfl, Or.inr rfl, Or.inr rfl, Or.inr rfl, trivial⟩ ?_
    rcases obs h with ⟨r33, e8, h⟩ | ⟨M9, e8, h⟩
    · cases h
      exact LX_X9_meets_35 zN _ _ _ _ _ _ hl0 hl1 _ e8 (fun r q => by cases q; rfl) (by intros; contradiction)
    · refine LX_X9_meets_35 zN _ _ _ _ _ _ hl0 hl1 _ e8 (fun r q => by cases q) ?_
      intro u34 q
      cases q
      refine x_aload_n (pc := 86) dX9_meets_86 rfl rfl hl0 ?_
      obtain ⟨v10, e11, h⟩ := ob h
      refine y_getR (pc := 87) dX9_meets_87 zf_X9_28 e11 ?_
      refine x_iload (pc := 90) dX9_meets_90 rfl ?_
      obtain ⟨v12, e13, h⟩ := ob h
      refine y_zald (pc := 92) dX9_meets_92 e13 ?_
      refine x_if_eq (pc := 93) dX9_meets_93 (t := 106) rfl (fun c14 => ?_) (fun c14 => ?_)
      · rw [if_pos c14] at h
        refine x_aload_n (pc := 106) dX9_meets_106 rfl rfl hl0 ?_
        obtain ⟨v15, e16, h⟩ := ob h
        refine y_getR (pc := 107) dX9_meets_107 zf_X9_28 e16 ?_
        refine x_iload (pc := 110) dX9_meets_110 rfl ?_
        obtain ⟨v17, e18, h⟩ := ob h
        refine y_zald (pc := 112) dX9_meets_112 e18 ?_
        obtain ⟨v19, e20, h⟩ := ob h
        obtain ⟨rfl, rfl⟩ := s2 h
        exact y_retZ (pc := 113) dX9_meets_113 rfl e20
      · rw [if_neg c14] at h
        refine x_aload_n (pc := 96) dX9_meets_96 rfl rfl hl1 ?_
        refine x_iconst (pc := 97) dX9_meets_97 (v := 4) rfl ?_
        refine x_aload_n (pc := 98) dX9_meets_98 rfl rfl hl1 ?_
        refine x_iconst (pc := 99) dX9_meets_99 (v := 4) rfl ?_
        obtain ⟨v21, e22, h⟩ := ob h
        refine y_iald (pc := 100) dX9_meets_100 e22 ?_
        refine x_iconst (pc := 101) dX9_meets_101 (v := 1) rfl ?_
        obtain ⟨r23, e24, h⟩ := ob h
        refine x_callS (av := [.int v21, .int 1]) (st := [.int 4, .ref l1]) (pc := 102) dX9_meets_102 (E_X9_up (d := d + 2) e24) rfl (Nat.le_of_ble_eq_true rfl) zc_X9_up rfl zm_X9_254 zs_X9_up rfl (zst_ok rfl (Nat.le_of_ble_eq_true rfl)) rfl ?_
        obtain ⟨M25, e26, h⟩ := ob h
        refine y_iast (pc := 105) dX9_meets_105 e26 ?_
        refine x_aload_n (pc := 106) dX9_meets_106 rfl rfl hl0 ?_
        obtain ⟨v27, e28, h⟩ := ob h
        refine y_getR (pc := 107) dX9_meets_107 zf_X9_28 e28 ?_
        refine x_iload (pc := 110) dX9_meets_110 rfl ?_
        obtain ⟨v29, e30, h⟩ := ob h
        refine y_zald (pc := 112) dX9_meets_112 e30 ?_
        obtain ⟨v31, e32, h⟩ := ob h
        obtain ⟨rfl, rfl⟩ := s2 h
        exact y_retZ (pc := 113) dX9_meets_113 rfl e32
  · rw [if_neg c7] at h
    refine x_aload_n (pc := 23) dX9_meets_23 rfl rfl hl1 ?_
    refine x_iload_n (pc := 24) dX9_meets_24 rfl rfl ?_
    refine x_iload (pc := 25) dX9_meets_25 rfl ?_
    obtain ⟨M35, e36, h⟩ := ob h
    refine x_callS (av := [.ref l1, .int r1, .int r3]) (st := []) (pc := 27) dX9_meets_27 (E_X9_says (d := d + 1) e36) rfl (Nat.le_of_ble_eq_true rfl) zc_X9_says rfl zm_X9_261 zs_X9_says rfl (zst_ok rfl (Nat.le_of_ble_eq_true rfl)) rfl ?_
    refine x_iconst (pc := 30) dX9_meets_30 (v := 1) rfl ?_
    obtain ⟨rfl, rfl⟩ := s2 h
    exact x_ret (pc := 31) dX9_meets_31 (ty := .boolean) rfl rfl
def L_X9_goOn_4 : Nat → Nat → Nat → Int32 → Int32 → zM → Option (Int32 × zM)
  | 0, _, _, _, _, _ => none
  | n + 1, l0, l1, l2, l3, M => (oI M l0 9 58 8).bind fun v1 => if v1 ≤ l3 then (some (l2, M)) else (bif zac M l0 9 58 then ((f_X9_dayOf l0 l3 M).bind fun r4 => (aI M l1 0).bind fun v6 => (oI M l0 9 58 5).bind fun v8 => (rm v6 v8).bind fun v10 => if r4 = v10 then (bif zac M l0 9 58 then (b2 (f_X9_meets l0 l1 l3 M) fun r13 M14 => if r13 = 0 then ((aI M14 l1 2).bind fun v19 => (f_X9_up v19 1 M14).bind fun r21 => (sI M14 l1 2 r21).bind fun M23 => (aI M23 l1 3).bind fun v25 => bif zac M23 l0 9 58 then ((f_X9_worthOf l0 l3 M23).bind fun r28 => (f_X9_up v25 r28 M23).bind fun r30 => (sI M23 l1 3 r30).bind fun M32 => L_X9_goOn_4 n l0 l1 (l2 + 0) (l3 + 1) M32) else none) else ((aI M14 l1 1).bind fun v37 => (f_X9_up v37 1 M14).bind fun r39 => (sI M14 l1 1 r39).bind fun M41 => (aI M41 l1 3).bind fun v43 => (f_X9_up v43 0 M41).bind fun r46 => (sI M41 l1 3 r46).bind fun M48 => L_X9_goOn_4 n l0 l1 (l2 + 1) (l3 + 1) M48)) else none) else (L_X9_goOn_4 n l0 l1 l2 (l3 + 1) M)) else none)
def L_X9_goOn_126 : Nat → Nat → Int32 → Int32 → zM → Option (zM)
  | 0, _, _, _, _ => none
  | n + 1, l1, l2, l3, M => if 8 ≤ l3 then (some M) else ((aI M l1 (5 + l3)).bind fun v16 => (sI M l1 (13 + l3) v16).bind fun M18 => L_X9_goOn_126 n l1 l2 (l3 + 1) M18)
def L_X9_goOn_152 : Nat → Nat → Int32 → Int32 → zM → Option (zM)
  | 0, _, _, _, _ => none
  | n + 1, l1, l2, l3, M => if 69 ≤ l3 then (some M) else ((sI M l1 l3 0).bind fun M18 => L_X9_goOn_152 n l1 l2 (l3 + 1) M18)
def f_X9_goOn (l0 : Nat) (l1 : Nat) (M : zM) : Option (Int32 × zM) := bif Nat.ble 1 l0 then (bif Nat.ble 1 l1 then (b2 (L_X9_goOn_4 zN l0 l1 0 0 M) fun v2 M3 => (aI M3 l1 0).bind fun v4 => (sI M3 l1 0 (v4 + 1)).bind fun M6 => (aI M6 l1 0).bind fun v8 => (oI M6 l0 9 58 5).bind fun v10 => (rm v8 v10).bind fun v12 => if v12 = 0 then ((L_X9_goOn_126 zN l1 v2 0 M6).bind fun M16 => (L_X9_goOn_152 zN l1 v2 29 M16).bind fun M18 => some (v2, M18)) else (some (v2, M6))) else none) else none
set_option maxRecDepth 100000 in
set_option maxHeartbeats 2000000 in
theorem LX_X9_goOn_4 {G : zG} {d : Nat} : ∀ (n : Nat) (l0 : Nat) (l1 : Nat) (l2 : Int32) (l3 : Int32) (M : zM) (hl0 : l0 ≠ 0) (hl1 : l1 ≠ 0) (o2 : Int32) (MX : zM) {res : Option Value × zM}, L_X9_goOn_4 n l0 l1 l2 l3 M = some (o2, MX) → Ex G (d + 4) yX9_goOn cX9_goOn 5 (some .int) 106 [.ref l0, .ref l1, .int o2, .null, .null] [] MX res → Ex G (d + 4) yX9_goOn cX9_goOn 5 (some .int) 4 [.ref l0, .ref l1, .int l2, .int l3, .null] [] M res := by
  intro n
  induction n with
  | zero =>
    intro l0 l1 l2 l3 M hl0 hl1 o2 MX res h K
    simp [L_X9_goOn_4] at h
  | succ n ih =>
    intro l0 l1 l2 l3 M hl0 hl1 o2 MX res h K
    simp only [L_X9_goOn_4] at h
    refine x_iload_n (pc := 4) dX9_goOn_4 rfl rfl ?_
    refine x_aload_n (pc := 5) dX9_goOn_5 rfl rfl hl0 ?_
    obtain ⟨v1, e2, h⟩ := ob h
    refine y_getI (pc := 6) dX9_goOn_6 zf_X9_127 e2 (by decide) ?_
    refine x_icmp_ge (pc := 9) dX9_goOn_9 (t := 106) rfl (fun c3 => ?_) (fun c3 => ?_)
    · rw [if_pos c3] at h
      obtain ⟨rfl, rfl⟩ := s2 h
      refine ex_weak (Ls2 := [.ref l0, .ref l1, .int l2, .null, .null]) ⟨Or.inr rfl, Or.inr rfl, Or.inr rfl, Or.inl rfl, Or.inl rfl, trivial⟩ ?_
      exact K
    · rw [if_neg c3] at h
      refine x_aload_n (pc := 12) dX9_goOn_12 rfl rfl hl0 ?_
      refine x_iload_n (pc := 13) dX9_goOn_13 rfl rfl ?_
      obtain ⟨g51, h⟩ := bt h
      obtain ⟨r4, e5, h⟩ := ob h
      refine x_callV (av := [.int l3]) (st := []) (pc := 14) dX9_goOn_14 (E_X9_dayOf (d := d + 3) e5) rfl (Nat.le_of_ble_eq_true rfl) zc_X9_dayOf rfl zm_X9_228 zi_X9_dayOf zs_X9_dayOf (zac_ok g51) (by decide) rfl rfl (zst_ok rfl (Nat.le_of_ble_eq_true rfl)) rfl ?_
      refine x_aload_n (pc := 17) dX9_goOn_17 rfl rfl hl1 ?_
      refine x_iconst (pc := 18) dX9_goOn_18 (v := 0) rfl ?_
      obtain ⟨v6, e7, h⟩ := ob h
      refine y_iald (pc := 19) dX9_goOn_19 e7 ?_
      refine x_aload_n (pc := 20) dX9_goOn_20 rfl rfl hl0 ?_
      obtain ⟨v8, e9, h⟩ := ob h
      refine y_getI (pc := 21) dX9_goOn_21 zf_X9_216 e9 (by decide) ?_
      obtain ⟨v10, e11, h⟩ := ob h
      refine y_irem (pc := 24) dX9_goOn_24 e11 ?_
      refine x_icmp_ne (pc := 25) dX9_goOn_25 (t := 100) rfl (fun c12 => ?_) (fun c12 => ?_)
      · rw [if_neg c12] at h
        refine x_iinc (pc := 100) dX9_goOn_100 rfl rfl (by decide) rfl ?_
        refine x_goto (pc := 103) dX9_goOn_103 (t := 4) rfl ?_
        refine ex_weak (Ls2 := [.ref l0, .ref l1, .int l2, .int (l3 + 1), .null]) ⟨Or.inr rfl, Or.inr rfl, Or.inr rfl, Or.inr rfl, Or.inl rfl, trivial⟩ ?_
        exact ih _ _ _ _ _ hl0 hl1 _ _ h K
      · rw [if_pos c12] at h
        refine x_aload_n (pc := 28) dX9_goOn_28 rfl rfl hl0 ?_
        refine x_aload_n (pc := 29) dX9_goOn_29 rfl rfl hl1 ?_
        refine x_iload_n (pc := 30) dX9_goOn_30 rfl rfl ?_
        obtain ⟨g50, h⟩ := bt h
        obtain ⟨r13, M14, e15, h⟩ := ob2 h
        refine x_callV (av := [.ref l1, .int l3]) (st := []) (pc := 31) dX9_goOn_31 (E_X9_meets (d := d) e15) rfl (Nat.le_of_ble_eq_true rfl) zc_X9_meets rfl zm_X9_277 zi_X9_meets zs_X9_meets (zac_ok g50) (by decide) rfl rfl (zst_ok rfl (Nat.le_of_ble_eq_true rfl)) rfl ?_
        refine x_istore (pc := 34) dX9_goOn_34 (by decide) rfl ?_
        refine x_iload_n (pc := 36) dX9_goOn_36 rfl rfl ?_
        refine x_iload (pc := 37) dX9_goOn_37 rfl ?_
        refine x_if_eq (pc := 39) dX9_goOn_39 (t := 46) rfl (fun c16 => ?_) (fun c16 => ?_)
        · rw [if_pos c16] at h
          refine x_iconst (pc := 46) dX9_goOn_46 (v := 0) rfl ?_
          refine x_iadd (pc := 47) dX9_goOn_47 ?_
          refine x_istore_n (pc := 48) dX9_goOn_48 rfl (by decide) rfl ?_
          refine x_aload_n (pc := 49) dX9_goOn_49 rfl rfl hl1 ?_
          refine x_iload (pc := 50) dX9_goOn_50 rfl ?_
          refine x_if_eq (pc := 52) dX9_goOn_52 (t := 59) rfl (fun c17 => ?_) (fun c17 => ?_)
          · refine x_iconst (pc := 59) dX9_goOn_59 (v := 2) rfl ?_
            refine x_aload_n (pc := 60) dX9_goOn_60 rfl rfl hl1 ?_
            refine x_iload (pc := 61) dX9_goOn_61 rfl ?_
            refine x_if_eq (pc := 63) dX9_goOn_63 (t := 70) rfl (fun c18 => ?_) (fun c18 => ?_)
            · refine x_iconst (pc := 70) dX9_goOn_70 (v := 2) rfl ?_
              obtain ⟨v19, e20, h⟩ := ob h
              refine y_iald (pc := 71) dX9_goOn_71 e20 ?_
              refine x_iconst (pc := 72) dX9_goOn_72 (v := 1) rfl ?_
              obtain ⟨r21, e22, h⟩ := ob h
              refine x_callS (av := [.int v19, .int 1]) (st := [.int 2, .ref l1]) (pc := 73) dX9_goOn_73 (E_X9_up (d := d + 3) e22) rfl (Nat.le_of_ble_eq_true rfl) zc_X9_up rfl zm_X9_254 zs_X9_up rfl (zst_ok rfl (Nat.le_of_ble_eq_true rfl)) rfl ?_
              obtain ⟨M23, e24, h⟩ := ob h
              refine y_iast (pc := 76) dX9_goOn_76 e24 ?_
              refine x_aload_n (pc := 77) dX9_goOn_77 rfl rfl hl1 ?_
              refine x_iconst (pc := 78) dX9_goOn_78 (v := 3) rfl ?_
              refine x_aload_n (pc := 79) dX9_goOn_79 rfl rfl hl1 ?_
              refine x_iconst (pc := 80) dX9_goOn_80 (v := 3) rfl ?_
              obtain ⟨v25, e26, h⟩ := ob h
              refine y_iald (pc := 81) dX9_goOn_81 e26 ?_
              refine x_iload (pc := 82) dX9_goOn_82 rfl ?_
              refine x_if_eq (pc := 84) dX9_goOn_84 (t := 91) rfl (fun c27 => ?_) (fun c27 => ?_)
              · refine x_aload_n (pc := 91) dX9_goOn_91 rfl rfl hl0 ?_
                refine x_iload_n (pc := 92) dX9_goOn_92 rfl rfl ?_
                obtain ⟨g34, h⟩ := bt h
                obtain ⟨r28, e29, h⟩ := ob h
                refine x_callV (av := [.int l3]) (st := [.int v25, .int 3, .ref l1]) (pc := 93) dX9_goOn_93 (E_X9_worthOf (d := d + 3) e29) rfl (Nat.le_of_ble_eq_true rfl) zc_X9_worthOf rfl zm_X9_281 zi_X9_worthOf zs_X9_worthOf (zac_ok g34) (by decide) rfl rfl (zst_ok rfl (Nat.le_of_ble_eq_true rfl)) rfl ?_
                obtain ⟨r30, e31, h⟩ := ob h
                refine x_callS (av := [.int v25, .int r28]) (st := [.int 3, .ref l1]) (pc := 96) dX9_goOn_96 (E_X9_up (d := d + 3) e31) rfl (Nat.le_of_ble_eq_true rfl) zc_X9_up rfl zm_X9_254 zs_X9_up rfl (zst_ok rfl (Nat.le_of_ble_eq_true rfl)) rfl ?_
                obtain ⟨M32, e33, h⟩ := ob h
                refine y_iast (pc := 99) dX9_goOn_99 e33 ?_
                refine x_iinc (pc := 100) dX9_goOn_100 rfl rfl (by decide) rfl ?_
                refine x_goto (pc := 103) dX9_goOn_103 (t := 4) rfl ?_
                refine ex_weak (Ls2 := [.ref l0, .ref l1, .int (l2 + 0), .int (l3 + 1), .null]) ⟨Or.inr rfl, Or.inr rfl, Or.inr rfl, Or.inr rfl, Or.inl rfl, trivial⟩ ?_
                exact ih _ _ _ _ _ hl0 hl1 _ _ h K
              · exact absurd c18 c27
            · exact absurd c17 c18
          · exact absurd c16 c17
        · rw [if_neg c16] at h
          refine x_iconst (pc := 42) dX9_goOn_42 (v := 1) rfl ?_
          refine x_goto (pc := 43) dX9_goOn_43 (t := 47) rfl ?_
          refine x_iadd (pc := 47) dX9_goOn_47 ?_
          refine x_istore_n (pc := 48) dX9_goOn_48 rfl (by decide) rfl ?_
          refine x_aload_n (pc := 49) dX9_goOn_49 rfl rfl hl1 ?_
          refine x_iload (pc := 50) dX9_goOn_50 rfl ?_
          refine x_if_eq (pc := 52) dX9_goOn_52 (t := 59) rfl (fun c35 => ?_) (fun c35 => ?_)
          · exact absurd c35 c16
          · refine x_iconst (pc := 55) dX9_goOn_55 (v := 1) rfl ?_
            refine x_goto (pc := 56) dX9_goOn_56 (t := 60) rfl ?_
            refine x_aload_n (pc := 60) dX9_goOn_60 rfl rfl hl1 ?_
            refine x_iload (pc := 61) dX9_goOn_61 rfl ?_
            refine x_if_eq (pc := 63) dX9_goOn_63 (t := 70) rfl (fun c36 => ?_) (fun c36 => ?_)
            · exact absurd c36 c35
            · refine x_iconst (pc := 66) dX9_goOn_66 (v := 1) rfl ?_
              refine x_goto (pc := 67) dX9_goOn_67 (t := 71) rfl ?_
              obtain ⟨v37, e38, h⟩ := ob h
              refine y_iald (pc := 71) dX9_goOn_71 e38 ?_
              refine x_iconst (pc := 72) dX9_goOn_72 (v := 1) rfl ?_
              obtain ⟨r39, e40, h⟩ := ob h
              refine x_callS (av := [.int v37, .int 1]) (st := [.int 1, .ref l1]) (pc := 73) dX9_goOn_73 (E_X9_up (d := d + 3) e40) rfl (Nat.le_of_ble_eq_true rfl) zc_X9_up rfl zm_X9_254 zs_X9_up rfl (zst_ok rfl (Nat.le_of_ble_eq_true rfl)) rfl ?_
              obtain ⟨M41, e42, h⟩ := ob h
              refine y_iast (pc := 76) dX9_goOn_76 e42 ?_
              refine x_aload_n (pc := 77) dX9_goOn_77 rfl rfl hl1 ?_
              refine x_iconst (pc := 78) dX9_goOn_78 (v := 3) rfl ?_
              refine x_aload_n (pc := 79) dX9_goOn_79 rfl rfl hl1 ?_
              refine x_iconst (pc := 80) dX9_goOn_80 (v := 3) rfl ?_
              obtain ⟨v43, e44, h⟩ := ob h
              refine y_iald (pc := 81) dX9_goOn_81 e44 ?_
              refine x_iload (pc := 82) dX9_goOn_82 rfl ?_
              refine x_if_eq (pc := 84) dX9_goOn_84 (t := 91) rfl (fun c45 => ?_) (fun c45 => ?_)
              · exact absurd c45 c36
              · refine x_iconst (pc := 87) dX9_goOn_87 (v := 0) rfl ?_
                refine x_goto (pc := 88) dX9_goOn_88 (t := 96) rfl ?_
                obtain ⟨r46, e47, h⟩ := ob h
                refine x_callS (av := [.int v43, .int 0]) (st := [.int 3, .ref l1]) (pc := 96) dX9_goOn_96 (E_X9_up (d := d + 3) e47) rfl (Nat.le_of_ble_eq_true rfl) zc_X9_up rfl zm_X9_254 zs_X9_up rfl (zst_ok rfl (Nat.le_of_ble_eq_true rfl)) rfl ?_
                obtain ⟨M48, e49, h⟩ := ob h
                refine y_iast (pc := 99) dX9_goOn_99 e49 ?_
                refine x_iinc (pc := 100) dX9_goOn_100 rfl rfl (by decide) rfl ?_
                refine x_goto (pc := 103) dX9_goOn_103 (t := 4) rfl ?_
                refine ex_weak (Ls2 := [.ref l0, .ref l1, .int (l2 + 1), .int (l3 + 1), .null]) ⟨Or.inr rfl, Or.inr rfl, Or.inr rfl, Or.inr rfl, Or.inl rfl, trivial⟩ ?_
                exact ih _ _ _ _ _ hl0 hl1 _ _ h K
set_option maxRecDepth 100000 in
set_option maxHeartbeats 2000000 in
theorem LX_X9_goOn_126 {G : zG} {d : Nat} : ∀ (n : Nat) (l1 : Nat) (l2 : Int32) (l3 : Int32) (M : zM) (hl1 : l1 ≠ 0) (MX : zM) {res : Option Value × zM}, L_X9_goOn_126 n l1 l2 l3 M = some MX → Ex G (d + 4) yX9_goOn cX9_goOn 5 (some .int) 149 [.null, .ref l1, .int l2, .null, .null] [] MX res → Ex G (d + 4) yX9_goOn cX9_goOn 5 (some .int) 126 [.null, .ref l1, .int l2, .int l3, .null] [] M res := by
  intro n
  induction n with
  | zero =>
    intro l1 l2 l3 M hl1 MX res h K
    simp [L_X9_goOn_126] at h
  | succ n ih =>
    intro l1 l2 l3 M hl1 MX res h K
    simp only [L_X9_goOn_126] at h
    refine x_iload_n (pc := 126) dX9_goOn_126 rfl rfl ?_
    refine x_bipush (pc := 127) dX9_goOn_127 (v := 8) (by decide) ?_
    refine x_icmp_ge (pc := 129) dX9_goOn_129 (t := 149) rfl (fun c15 => ?_) (fun c15 => ?_)
    · rw [if_pos c15] at h
      obtain rfl := s1 h
      refine ex_weak (Ls2 := [.null, .ref l1, .int l2, .null, .null]) ⟨Or.inl rfl, Or.inr rfl, Or.inr rfl, Or.inl rfl, Or.inl rfl, trivial⟩ ?_
      exact K
    · rw [if_neg c15] at h
      refine x_aload_n (pc := 132) dX9_goOn_132 rfl rfl hl1 ?_
      refine x_bipush (pc := 133) dX9_goOn_133 (v := 13) (by decide) ?_
      refine x_iload_n (pc := 135) dX9_goOn_135 rfl rfl ?_
      refine x_iadd (pc := 136) dX9_goOn_136 ?_
      refine x_aload_n (pc := 137) dX9_goOn_137 rfl rfl hl1 ?_
      refine x_iconst (pc := 138) dX9_goOn_138 (v := 5) rfl ?_
      refine x_iload_n (pc := 139) dX9_goOn_139 rfl rfl ?_
      refine x_iadd (pc := 140) dX9_goOn_140 ?_
      obtain ⟨v16, e17, h⟩ := ob h
      refine y_iald (pc := 141) dX9_goOn_141 e17 ?_
      obtain ⟨M18, e19, h⟩ := ob h
      refine y_iast (pc := 142) dX9_goOn_142 e19 ?_
      refine x_iinc (pc := 143) dX9_goOn_143 rfl rfl (by decide) rfl ?_
      refine x_goto (pc := 146) dX9_goOn_146 (t := 126) rfl ?_
      refine ex_weak (Ls2 := [.null, .ref l1, .int l2, .int (l3 + 1), .null]) ⟨Or.inl rfl, Or.inr rfl, Or.inr rfl, Or.inr rfl, Or.inl rfl, trivial⟩ ?_
      exact ih _ _ _ _ hl1  _ h K
set_option maxRecDepth 100000 in
set_option maxHeartbeats 2000000 in
theorem LX_X9_goOn_152 {G : zG} {d : Nat} : ∀ (n : Nat) (l1 : Nat) (l2 : Int32) (l3 : Int32) (M : zM) (hl1 : l1 ≠ 0) (MX : zM) {res : Option Value × zM}, L_X9_goOn_152 n l1 l2 l3 M = some MX → Ex G (d + 4) yX9_goOn cX9_goOn 5 (some .int) 168 [.null, .null, .int l2, .null, .null] [] MX res → Ex G (d + 4) yX9_goOn cX9_goOn 5 (some .int) 152 [.null, .ref l1, .int l2, .int l3, .null] [] M res := by
  intro n
  induction n with
  | zero =>
    intro l1 l2 l3 M hl1 MX res h K
    simp [L_X9_goOn_152] at h
  | succ n ih =>
    intro l1 l2 l3 M hl1 MX res h K
    simp only [L_X9_goOn_152] at h
    refine x_iload_n (pc := 152) dX9_goOn_152 rfl rfl ?_
    refine x_bipush (pc := 153) dX9_goOn_153 (v := 69) (by decide) ?_
    refine x_icmp_ge (pc := 155) dX9_goOn_155 (t := 168) rfl (fun c17 => ?_) (fun c17 => ?_)
    · rw [if_pos c17] at h
      obtain rfl := s1 h
      refine ex_weak (Ls2 := [.null, .null, .int l2, .null, .null]) ⟨Or.inl rfl, Or.inl rfl, Or.inr rfl, Or.inl rfl, Or.inl rfl, trivial⟩ ?_
      exact K
    · rw [if_neg c17] at h
      refine x_aload_n (pc := 158) dX9_goOn_158 rfl rfl hl1 ?_
      refine x_iload_n (pc := 159) dX9_goOn_159 rfl rfl ?_
      refine x_iconst (pc := 160) dX9_goOn_160 (v := 0) rfl ?_
      obtain ⟨M18, e19, h⟩ := ob h
      refine y_iast (pc := 161) dX9_goOn_161 e19 ?_
      refine x_iinc (pc := 162) dX9_goOn_162 rfl rfl (by decide) rfl ?_
      refine x_goto (pc := 165) dX9_goOn_165 (t := 152) rfl ?_
      refine ex_weak (Ls2 := [.null, .ref l1, .int l2, .int (l3 + 1), .null]) ⟨Or.inl rfl, Or.inr rfl, Or.inr rfl, Or.inr rfl, Or.inl rfl, trivial⟩ ?_
      exact ih _ _ _ _ hl1  _ h K
set_option maxRecDepth 100000 in
set_option maxHeartbeats 2000000 in
theorem E_X9_goOn {G : zG} {d : Nat} {l0 : Nat} {l1 : Nat} {M MR : zM} {r : Int32} (h : f_X9_goOn l0 l1 M = some (r, MR)) : Ex G (d + 4) yX9_goOn cX9_goOn 5 (some .int) 0 (zent0 [.ref l0, .ref l1] 5) [] M (some (.int r), MR) := by
  unfold f_X9_goOn at h
  obtain ⟨zz0, h⟩ := bt h
  have hl0 := bz zz0
  obtain ⟨zz1, h⟩ := bt h
  have hl1 := bz zz1
  show Ex _ _ _ _ _ _ 0 [.ref l0, .ref l1, .null, .null, .null] [] _ _
  refine x_iconst (pc := 0) dX9_goOn_0 (v := 0) rfl ?_
  refine x_istore_n (pc := 1) dX9_goOn_1 rfl (by decide) rfl ?_
  refine x_iconst (pc := 2) dX9_goOn_2 (v := 0) rfl ?_
  refine x_istore_n (pc := 3) dX9_goOn_3 rfl (by decide) rfl ?_
  obtain ⟨v2, M3, e1, h⟩ := ob2 h
  refine ex_weak (Ls2 := [.ref l0, .ref l1, .int 0, .int 0, .null]) ⟨Or.inr rfl, Or.inr rfl, Or.inr rfl, Or.inr rfl, Or.inl rfl, trivial⟩ ?_
  refine LX_X9_goOn_4 zN _ _ _ _ _ hl0 hl1 _ _ e1 ?_
  refine x_aload_n (pc := 106) dX9_goOn_106 rfl rfl hl1 ?_
  refine x_iconst (pc := 107) dX9_goOn_107 (v := 0) rfl ?_
  refine x_dup2 (pc := 108) dX9_goOn_108 rfl rv_cr ?_
  obtain ⟨v4, e5, h⟩ := ob h
  refine y_iald (pc := 109) dX9_goOn_109 e5 ?_
  refine x_iconst (pc := 110) dX9_goOn_110 (v := 1) rfl ?_
  refine x_iadd (pc := 111) dX9_goOn_111 ?_
  obtain ⟨M6, e7, h⟩ := ob h
  refine y_iast (pc := 112) dX9_goOn_112 e7 ?_
  refine x_aload_n (pc := 113) dX9_goOn_113 rfl rfl hl1 ?_
  refine x_iconst (pc := 114) dX9_goOn_114 (v := 0) rfl ?_
  obtain ⟨v8, e9, h⟩ := ob h
  refine y_iald (pc := 115) dX9_goOn_115 e9 ?_
  refine x_aload_n (pc := 116) dX9_goOn_116 rfl rfl hl0 ?_
  obtain ⟨v10, e11, h⟩ := ob h
  refine y_getI (pc := 117) dX9_goOn_117 zf_X9_216 e11 (by decide) ?_
  obtain ⟨v12, e13, h⟩ := ob h
  refine y_irem (pc := 120) dX9_goOn_120 e13 ?_
  refine x_if_ne (pc := 121) dX9_goOn_121 (t := 168) rfl (fun c14 => ?_) (fun c14 => ?_)
  · rw [if_neg c14] at h
    refine x_iload_n (pc := 168) dX9_goOn_168 rfl rfl ?_
    obtain ⟨rfl, rfl⟩ := s2 h
    exact y_retI (pc := 169) dX9_goOn_169 rfl
  · rw [if_pos c14] at h
    refine x_iconst (pc := 124) dX9_goOn_124 (v := 0) rfl ?_
    refine x_istore_n (pc := 125) dX9_goOn_125 rfl (by decide) rfl ?_
    obtain ⟨M16, e15, h⟩ := ob h
    refine ex_weak (Ls2 := [.null, .ref l1, .int v2, .int 0, .null]) ⟨Or.inl rfl, Or.inr rfl, Or.inr rfl, Or.inr rfl, Or.inl rfl, trivial⟩ ?_
    refine LX_X9_goOn_126 zN _ _ _ _ hl1 _ e15 ?_
    refine x_bipush (pc := 149) dX9_goOn_149 (v := 29) (by decide) ?_
    refine x_istore_n (pc := 151) dX9_goOn_151 rfl (by decide) rfl ?_
    obtain ⟨M18, e17, h⟩ := ob h
    refine ex_weak (Ls2 := [.null, .ref l1, .int v2, .int 29, .null]) ⟨Or.inl rfl, Or.inr rfl, Or.inr rfl, Or.inr rfl, Or.inl rfl, trivial⟩ ?_
    refine LX_X9_goOn_152 zN _ _ _ _ hl1 _ e17 ?_
    refine x_iload_n (pc := 168) dX9_goOn_168 rfl rfl ?_
    obtain ⟨rfl, rfl⟩ := s2 h
    exact y_retI (pc := 169) dX9_goOn_169 rfl
def L_X9_day_47 : Nat → Nat → Int32 → Int32 → zM → Option (zM)
  | 0, _, _, _, _ => none
  | n + 1, l0, l1, l2, M => if l1 ≤ l2 then (some M) else ((oR M l0 9 58 0).bind fun v15 => bif zac M l0 9 58 then (b2 (f_X9_goOn l0 v15 M) fun r17 M18 => L_X9_day_47 n l0 l1 (l2 + 1) M18) else none)
def f_X9_day (l0 : Nat) (l1 : Int32) (M : zM) : Option (Int32 × zM) := bif Nat.ble 1 l0 then ((f_X9_in (Int32.toInt64 l1) 1 60 M).bind fun r1 => if r1 = 0 then (some ((-1000000002), M)) else ((oI M l0 9 58 5).bind fun v4 => if v4 = 0 then (some ((-1000000003), M)) else ((oR M l0 9 58 0).bind fun v7 => (aI M v7 0).bind fun v9 => if v9 ≤ 9000 then (bif zac M l0 9 58 then ((f_X9_keepAct l0 M).bind fun M12 => (L_X9_day_47 zN l0 l1 0 M12).bind fun M15 => (oR M15 l0 9 58 0).bind fun v16 => (aI M15 v16 0).bind fun v18 => some (v18, M15)) else none) else (some ((-1000000004), M))))) else none
theorem LX_X9_day_47 {G : zG} {d : Nat} : ∀ (n : Nat) (l0 : Nat) (l1 : Int32) (l2 : Int32) (M : zM) (hl0 : l0 ≠ 0) (MX : zM) {res : Option Value × zM}, L_X9_day_47 n l0 l1 l2 M = some MX → Ex G (d + 5) yX9_day cX9_day 4 (some .int) 67 [.ref l0, .null, .null, .null] [] MX res → Ex G (d + 5) yX9_day cX9_day 4 (some .int) 47 [.ref l0, .int l1, .int l2, .null] [] M res := by
  intro n
  induction n with
  | zero =>
    intro l0 l1 l2 M hl0 MX res h K
    simp [L_X9_day_47] at h
  | succ n ih =>
    intro l0 l1 l2 M hl0 MX res h K
    simp only [L_X9_day_47] at h
    refine x_iload_n (pc := 47) dX9_day_47 rfl rfl ?_
    refine x_iload_n (pc := 48) dX9_day_48 rfl rfl ?_
    refine x_icmp_ge (pc := 49) dX9_day_49 (t := 67) rfl (fun c14 => ?_) (fun c14 => ?_)
    · rw [if_pos c14] at h
      obtain rfl := s1 h
      refine ex_weak (Ls2 := [.ref l0, .null, .null, .null]) ⟨Or.inr rfl, Or.inl rfl, Or.inl rfl, Or.inl rfl, trivial⟩ ?_
      exact K
    · rw [if_neg c14] at h
      refine x_aload_n (pc := 52) dX9_day_52 rfl rfl hl0 ?_
      refine x_aload_n (pc := 53) dX9_day_53 rfl rfl hl0 ?_
      obtain ⟨v15, e16, h⟩ := ob h
      refine y_getR (pc := 54) dX9_day_54 zf_X9_7 e16 ?_
      obtain ⟨g20, h⟩ := bt h
      obtain ⟨r17, M18, e19, h⟩ := ob2 h
      refine x_callV (av := [.ref v15]) (st := []) (pc := 57) dX9_day_57 (E_X9_goOn (d := d) e19) rfl (Nat.le_of_ble_eq_true rfl) zc_X9_goOn rfl zm_X9_290 zi_X9_goOn zs_X9_goOn (zac_ok g20) (by decide) rfl rfl (zst_ok rfl (Nat.le_of_ble_eq_true rfl)) rfl ?_
      refine x_istore_n (pc := 60) dX9_day_60 rfl (by decide) rfl ?_
      refine x_iinc (pc := 61) dX9_day_61 rfl rfl (by decide) rfl ?_
      refine x_goto (pc := 64) dX9_day_64 (t := 47) rfl ?_
      refine ex_weak (Ls2 := [.ref l0, .int l1, .int (l2 + 1), .null]) ⟨Or.inr rfl, Or.inr rfl, Or.inr rfl, Or.inl rfl, trivial⟩ ?_
      exact ih _ _ _ _ hl0  _ h K
theorem E_X9_day {G : zG} {d : Nat} {l0 : Nat} {l1 : Int32} {M MR : zM} {r : Int32} (h : f_X9_day l0 l1 M = some (r, MR)) : Ex G (d + 5) yX9_day cX9_day 4 (some .int) 0 (zent0 [.ref l0, .int l1] 4) [] M (some (.int r), MR) := by
  unfold f_X9_day at h
  obtain ⟨zz0, h⟩ := bt h
  have hl0 := bz zz0
  show Ex _ _ _ _ _ _ 0 [.ref l0, .int l1, .null, .null] [] _ _
  refine x_iload_n (pc := 0) dX9_day_0 rfl rfl ?_
  refine x_i2l (pc := 1) dX9_day_1 ?_
  refine x_lconst (pc := 2) dX9_day_2 (v := 1) rfl ?_
  refine x_ldc2 (pc := 3) dX9_day_3 zk_X9_284 ?_
  obtain ⟨r1, e2, h⟩ := ob h
  refine x_callS (av := [.long (Int32.toInt64 l1), .long 1, .long 60]) (st := []) (pc := 6) dX9_day_6 (E_X9_in (d := d + 4) e2) rfl (Nat.le_of_ble_eq_true rfl) zc_X9_in rfl zm_X9_120 zs_X9_in rfl (zst_ok rfl (Nat.le_of_ble_eq_true rfl)) rfl ?_
  refine x_if_ne (pc := 9) dX9_day_9 (t := 15) rfl (fun c3 => ?_) (fun c3 => ?_)
  · rw [if_neg c3] at h
    refine x_aload_n (pc := 15) dX9_day_15 rfl rfl hl0 ?_
    obtain ⟨v4, e5, h⟩ := ob h
    refine y_getI (pc := 16) dX9_day_16 zf_X9_216 e5 (by decide) ?_
    refine x_if_ne (pc := 19) dX9_day_19 (t := 26) rfl (fun c6 => ?_) (fun c6 => ?_)
    · rw [if_neg c6] at h
      refine x_aload_n (pc := 26) dX9_day_26 rfl rfl hl0 ?_
      obtain ⟨v7, e8, h⟩ := ob h
      refine y_getR (pc := 27) dX9_day_27 zf_X9_7 e8 ?_
      refine x_iconst (pc := 30) dX9_day_30 (v := 0) rfl ?_
      obtain ⟨v9, e10, h⟩ := ob h
      refine y_iald (pc := 31) dX9_day_31 e10 ?_
      refine x_sipush (pc := 32) dX9_day_32 (v := 9000) (by decide) ?_
      refine x_icmp_le (pc := 35) dX9_day_35 (t := 41) rfl (fun c11 => ?_) (fun c11 => ?_)
      · rw [if_pos c11] at h
        refine x_aload_n (pc := 41) dX9_day_41 rfl rfl hl0 ?_
        obtain ⟨g20, h⟩ := bt h
        obtain ⟨M12, e13, h⟩ := ob h
        refine x_callV (av := []) (st := []) (pc := 42) dX9_day_42 (E_X9_keepAct (d := d + 4) e13) rfl (Nat.le_of_ble_eq_true rfl) zc_X9_keepAct rfl zm_X9_287 zi_X9_keepAct zs_X9_keepAct (zac_ok g20) (by decide) rfl rfl (zst_ok rfl (Nat.le_of_ble_eq_true rfl)) rfl ?_
        refine x_iconst (pc := 45) dX9_day_45 (v := 0) rfl ?_
        refine x_istore_n (pc := 46) dX9_day_46 rfl (by decide) rfl ?_
        obtain ⟨M15, e14, h⟩ := ob h
        refine ex_weak (Ls2 := [.ref l0, .int l1, .int 0, .null]) ⟨Or.inr rfl, Or.inr rfl, Or.inr rfl, Or.inl rfl, trivial⟩ ?_
        refine LX_X9_day_47 zN _ _ _ _ hl0 _ e14 ?_
        refine x_aload_n (pc := 67) dX9_day_67 rfl rfl hl0 ?_
        obtain ⟨v16, e17, h⟩ := ob h
        refine y_getR (pc := 68) dX9_day_68 zf_X9_7 e17 ?_
        refine x_iconst (pc := 71) dX9_day_71 (v := 0) rfl ?_
        obtain ⟨v18, e19, h⟩ := ob h
        refine y_iald (pc := 72) dX9_day_72 e19 ?_
        obtain ⟨rfl, rfl⟩ := s2 h
        exact y_retI (pc := 73) dX9_day_73 rfl
      · rw [if_neg c11] at h
        refine x_ldc (pc := 38) dX9_day_38 zk_X9_137 ?_
        obtain ⟨rfl, rfl⟩ := s2 h
        exact y_retI (pc := 40) dX9_day_40 rfl
    · rw [if_pos c6] at h
      refine x_ldcw (pc := 22) dX9_day_22 zk_X9_286 ?_
      obtain ⟨rfl, rfl⟩ := s2 h
      exact y_retI (pc := 25) dX9_day_25 rfl
  · rw [if_pos c3] at h
    refine x_ldc (pc := 12) dX9_day_12 zk_X9_133 ?_
    obtain ⟨rfl, rfl⟩ := s2 h
    exact y_retI (pc := 14) dX9_day_14 rfl
def f_X9_say (l0 : Nat) (l1 : Int32) (l2 : Int32) (M : zM) : Option (Int32 × zM) := bif Nat.ble 1 l0 then (bif zac M l0 9 58 then ((f_X9_isPerson l0 l1 M).bind fun r1 => if r1 = 0 then (some ((-1000000001), M)) else (bif zac M l0 9 58 then ((f_X9_isWord l0 l2 M).bind fun r4 => if r4 = 0 then (some ((-1000000001), M)) else ((oR M l0 9 58 0).bind fun v7 => (f_X9_canSay v7 l1 l2 M).bind fun r9 => if r9 = 0 then (some ((-1000000003), M)) else (bif zac M l0 9 58 then ((f_X9_keepAct l0 M).bind fun M12 => (oR M12 l0 9 58 0).bind fun v14 => (f_X9_says v14 l1 l2 M12).bind fun M16 => (oR M16 l0 9 58 0).bind fun v18 => (aI M16 v18 ((29 + (8 * l1)) + l2)).bind fun v20 => (oR M16 l0 9 58 0).bind fun v22 => (aI M16 v22 (13 + l2)).bind fun v24 => some (v20 + v24, M16)) else none))) else none)) else none) else none
theorem E_X9_say {G : zG} {d : Nat} {l0 : Nat} {l1 : Int32} {l2 : Int32} {M MR : zM} {r : Int32} (h : f_X9_say l0 l1 l2 M = some (r, MR)) : Ex G (d + 2) yX9_say cX9_say 3 (some .int) 0 (zent0 [.ref l0, .int l1, .int l2] 3) [] M (some (.int r), MR) := by
  unfold f_X9_say at h
  obtain ⟨zz0, h⟩ := bt h
  have hl0 := bz zz0
  show Ex _ _ _ _ _ _ 0 [.ref l0, .int l1, .int l2] [] _ _
  refine x_aload_n (pc := 0) dX9_say_0 rfl rfl hl0 ?_
  refine x_iload_n (pc := 1) dX9_say_1 rfl rfl ?_
  obtain ⟨g28, h⟩ := bt h
  obtain ⟨r1, e2, h⟩ := ob h
  refine x_callV (av := [.int l1]) (st := []) (pc := 2) dX9_say_2 (E_X9_isPerson (d := d) e2) rfl (Nat.le_of_ble_eq_true rfl) zc_X9_isPerson rfl zm_X9_243 zi_X9_isPerson zs_X9_isPerson (zac_ok g28) (by decide) rfl rfl (zst_ok rfl (Nat.le_of_ble_eq_true rfl)) rfl ?_
  refine x_if_eq (pc := 5) dX9_say_5 (t := 16) rfl (fun c3 => ?_) (fun c3 => ?_)
  · rw [if_pos c3] at h
    refine x_ldc (pc := 16) dX9_say_16 zk_X9_238 ?_
    obtain ⟨rfl, rfl⟩ := s2 h
    exact y_retI (pc := 18) dX9_say_18 rfl
  · rw [if_neg c3] at h
    refine x_aload_n (pc := 8) dX9_say_8 rfl rfl hl0 ?_
    refine x_iload_n (pc := 9) dX9_say_9 rfl rfl ?_
    obtain ⟨g27, h⟩ := bt h
    obtain ⟨r4, e5, h⟩ := ob h
    refine x_callV (av := [.int l2]) (st := []) (pc := 10) dX9_say_10 (E_X9_isWord (d := d) e5) rfl (Nat.le_of_ble_eq_true rfl) zc_X9_isWord rfl zm_X9_235 zi_X9_isWord zs_X9_isWord (zac_ok g27) (by decide) rfl rfl (zst_ok rfl (Nat.le_of_ble_eq_true rfl)) rfl ?_
    refine x_if_ne (pc := 13) dX9_say_13 (t := 19) rfl (fun c6 => ?_) (fun c6 => ?_)
    · rw [if_neg c6] at h
      refine x_aload_n (pc := 19) dX9_say_19 rfl rfl hl0 ?_
      obtain ⟨v7, e8, h⟩ := ob h
      refine y_getR (pc := 20) dX9_say_20 zf_X9_7 e8 ?_
      refine x_iload_n (pc := 23) dX9_say_23 rfl rfl ?_
      refine x_iload_n (pc := 24) dX9_say_24 rfl rfl ?_
      obtain ⟨r9, e10, h⟩ := ob h
      refine x_callS (av := [.ref v7, .int l1, .int l2]) (st := []) (pc := 25) dX9_say_25 (E_X9_canSay (d := d + 1) e10) rfl (Nat.le_of_ble_eq_true rfl) zc_X9_canSay rfl zm_X9_257 zs_X9_canSay rfl (zst_ok rfl (Nat.le_of_ble_eq_true rfl)) rfl ?_
      refine x_if_ne (pc := 28) dX9_say_28 (t := 35) rfl (fun c11 => ?_) (fun c11 => ?_)
      · rw [if_neg c11] at h
        refine x_aload_n (pc := 35) dX9_say_35 rfl rfl hl0 ?_
        obtain ⟨g26, h⟩ := bt h
        obtain ⟨M12, e13, h⟩ := ob h
        refine x_callV (av := []) (st := []) (pc := 36) dX9_say_36 (E_X9_keepAct (d := d + 1) e13) rfl (Nat.le_of_ble_eq_true rfl) zc_X9_keepAct rfl zm_X9_287 zi_X9_keepAct zs_X9_keepAct (zac_ok g26) (by decide) rfl rfl (zst_ok rfl (Nat.le_of_ble_eq_true rfl)) rfl ?_
        refine x_aload_n (pc := 39) dX9_say_39 rfl rfl hl0 ?_
        obtain ⟨v14, e15, h⟩ := ob h
        refine y_getR (pc := 40) dX9_say_40 zf_X9_7 e15 ?_
        refine x_iload_n (pc := 43) dX9_say_43 rfl rfl ?_
        refine x_iload_n (pc := 44) dX9_say_44 rfl rfl ?_
        obtain ⟨M16, e17, h⟩ := ob h
        refine x_callS (av := [.ref v14, .int l1, .int l2]) (st := []) (pc := 45) dX9_say_45 (E_X9_says (d := d) e17) rfl (Nat.le_of_ble_eq_true rfl) zc_X9_says rfl zm_X9_261 zs_X9_says rfl (zst_ok rfl (Nat.le_of_ble_eq_true rfl)) rfl ?_
        refine x_aload_n (pc := 48) dX9_say_48 rfl rfl hl0 ?_
        obtain ⟨v18, e19, h⟩ := ob h
        refine y_getR (pc := 49) dX9_say_49 zf_X9_7 e19 ?_
        refine x_bipush (pc := 52) dX9_say_52 (v := 29) (by decide) ?_
        refine x_bipush (pc := 54) dX9_say_54 (v := 8) (by decide) ?_
        refine x_iload_n (pc := 56) dX9_say_56 rfl rfl ?_
        refine x_imul (pc := 57) dX9_say_57 ?_
        refine x_iadd (pc := 58) dX9_say_58 ?_
        refine x_iload_n (pc := 59) dX9_say_59 rfl rfl ?_
        refine x_iadd (pc := 60) dX9_say_60 ?_
        obtain ⟨v20, e21, h⟩ := ob h
        refine y_iald (pc := 61) dX9_say_61 e21 ?_
        refine x_aload_n (pc := 62) dX9_say_62 rfl rfl hl0 ?_
        obtain ⟨v22, e23, h⟩ := ob h
        refine y_getR (pc := 63) dX9_say_63 zf_X9_7 e23 ?_
        refine x_bipush (pc := 66) dX9_say_66 (v := 13) (by decide) ?_
        refine x_iload_n (pc := 68) dX9_say_68 rfl rfl ?_
        refine x_iadd (pc := 69) dX9_say_69 ?_
        obtain ⟨v24, e25, h⟩ := ob h
        refine y_iald (pc := 70) dX9_say_70 e25 ?_
        refine x_iadd (pc := 71) dX9_say_71 ?_
        obtain ⟨rfl, rfl⟩ := s2 h
        exact y_retI (pc := 72) dX9_say_72 rfl
      · rw [if_pos c11] at h
        refine x_ldcw (pc := 31) dX9_say_31 zk_X9_286 ?_
        obtain ⟨rfl, rfl⟩ := s2 h
        exact y_retI (pc := 34) dX9_say_34 rfl
    · rw [if_pos c6] at h
      refine x_ldc (pc := 16) dX9_say_16 zk_X9_238 ?_
      obtain ⟨rfl, rfl⟩ := s2 h
      exact y_retI (pc := 18) dX9_say_18 rfl
def f_X9_around (l0 : Nat) (l1 : Int32) (l2 : Int32) (l3 : Int32) (M : zM) : Option (Int32 × zM) := bif Nat.ble 1 l0 then (bif zac M l0 9 58 then ((f_X9_isPerson l0 l1 M).bind fun r1 => if r1 = 0 then (some ((-1000000001), M)) else (bif zac M l0 9 58 then ((f_X9_isWord l0 l2 M).bind fun r4 => if r4 = 0 then (some ((-1000000001), M)) else ((f_X9_in (Int32.toInt64 l3) 0 1 M).bind fun r7 => if r7 = 0 then (some ((-1000000002), M)) else ((oR M l0 9 58 11).bind fun v10 => (aI M v10 ((2 * l2) + l3)).bind fun v12 => (oR M l0 9 58 0).bind fun v14 => (f_X9_canGo v14 l1 v12 M).bind fun r16 => if r16 = 0 then (some ((-1000000003), M)) else (bif zac M l0 9 58 then ((f_X9_keepAct l0 M).bind fun M19 => (oR M19 l0 9 58 0).bind fun v21 => (f_X9_goes v21 l1 v12 M19).bind fun M23 => some (v12, M23)) else none)))) else none)) else none) else none
theorem E_X9_around {G : zG} {d : Nat} {l0 : Nat} {l1 : Int32} {l2 : Int32} {l3 : Int32} {M MR : zM} {r : Int32} (h : f_X9_around l0 l1 l2 l3 M = some (r, MR)) : Ex G (d + 3) yX9_around cX9_around 5 (some .int) 0 (zent0 [.ref l0, .int l1, .int l2, .int l3] 5) [] M (some (.int r), MR) := by
  unfold f_X9_around at h
  obtain ⟨zz0, h⟩ := bt h
  have hl0 := bz zz0
  show Ex _ _ _ _ _ _ 0 [.ref l0, .int l1, .int l2, .int l3, .null] [] _ _
  refine x_aload_n (pc := 0) dX9_around_0 rfl rfl hl0 ?_
  refine x_iload_n (pc := 1) dX9_around_1 rfl rfl ?_
  obtain ⟨g27, h⟩ := bt h
  obtain ⟨r1, e2, h⟩ := ob h
  refine x_callV (av := [.int l1]) (st := []) (pc := 2) dX9_around_2 (E_X9_isPerson (d := d + 1) e2) rfl (Nat.le_of_ble_eq_true rfl) zc_X9_isPerson rfl zm_X9_243 zi_X9_isPerson zs_X9_isPerson (zac_ok g27) (by decide) rfl rfl (zst_ok rfl (Nat.le_of_ble_eq_true rfl)) rfl ?_
  refine x_if_eq (pc := 5) dX9_around_5 (t := 16) rfl (fun c3 => ?_) (fun c3 => ?_)
  · rw [if_pos c3] at h
    refine x_ldc (pc := 16) dX9_around_16 zk_X9_238 ?_
    obtain ⟨rfl, rfl⟩ := s2 h
    exact y_retI (pc := 18) dX9_around_18 rfl
  · rw [if_neg c3] at h
    refine x_aload_n (pc := 8) dX9_around_8 rfl rfl hl0 ?_
    refine x_iload_n (pc := 9) dX9_around_9 rfl rfl ?_
    obtain ⟨g26, h⟩ := bt h
    obtain ⟨r4, e5, h⟩ := ob h
    refine x_callV (av := [.int l2]) (st := []) (pc := 10) dX9_around_10 (E_X9_isWord (d := d + 1) e5) rfl (Nat.le_of_ble_eq_true rfl) zc_X9_isWord rfl zm_X9_235 zi_X9_isWord zs_X9_isWord (zac_ok g26) (by decide) rfl rfl (zst_ok rfl (Nat.le_of_ble_eq_true rfl)) rfl ?_
    refine x_if_ne (pc := 13) dX9_around_13 (t := 19) rfl (fun c6 => ?_) (fun c6 => ?_)
    · rw [if_neg c6] at h
      refine x_iload_n (pc := 19) dX9_around_19 rfl rfl ?_
      refine x_i2l (pc := 20) dX9_around_20 ?_
      refine x_lconst (pc := 21) dX9_around_21 (v := 0) rfl ?_
      refine x_lconst (pc := 22) dX9_around_22 (v := 1) rfl ?_
      obtain ⟨r7, e8, h⟩ := ob h
      refine x_callS (av := [.long (Int32.toInt64 l3), .long 0, .long 1]) (st := []) (pc := 23) dX9_around_23 (E_X9_in (d := d + 2) e8) rfl (Nat.le_of_ble_eq_true rfl) zc_X9_in rfl zm_X9_120 zs_X9_in rfl (zst_ok rfl (Nat.le_of_ble_eq_true rfl)) rfl ?_
      refine x_if_ne (pc := 26) dX9_around_26 (t := 32) rfl (fun c9 => ?_) (fun c9 => ?_)
      · rw [if_neg c9] at h
        refine x_aload_n (pc := 32) dX9_around_32 rfl rfl hl0 ?_
        obtain ⟨v10, e11, h⟩ := ob h
        refine y_getR (pc := 33) dX9_around_33 zf_X9_25 e11 ?_
        refine x_iconst (pc := 36) dX9_around_36 (v := 2) rfl ?_
        refine x_iload_n (pc := 37) dX9_around_37 rfl rfl ?_
        refine x_imul (pc := 38) dX9_around_38 ?_
        refine x_iload_n (pc := 39) dX9_around_39 rfl rfl ?_
        refine x_iadd (pc := 40) dX9_around_40 ?_
        obtain ⟨v12, e13, h⟩ := ob h
        refine y_iald (pc := 41) dX9_around_41 e13 ?_
        refine x_istore (pc := 42) dX9_around_42 (by decide) rfl ?_
        refine x_aload_n (pc := 44) dX9_around_44 rfl rfl hl0 ?_
        obtain ⟨v14, e15, h⟩ := ob h
        refine y_getR (pc := 45) dX9_around_45 zf_X9_7 e15 ?_
        refine x_iload_n (pc := 48) dX9_around_48 rfl rfl ?_
        refine x_iload (pc := 49) dX9_around_49 rfl ?_
        obtain ⟨r16, e17, h⟩ := ob h
        refine x_callS (av := [.ref v14, .int l1, .int v12]) (st := []) (pc := 51) dX9_around_51 (E_X9_canGo (d := d + 1) e17) rfl (Nat.le_of_ble_eq_true rfl) zc_X9_canGo rfl zm_X9_271 zs_X9_canGo rfl (zst_ok rfl (Nat.le_of_ble_eq_true rfl)) rfl ?_
        refine x_if_ne (pc := 54) dX9_around_54 (t := 61) rfl (fun c18 => ?_) (fun c18 => ?_)
        · rw [if_neg c18] at h
          refine x_aload_n (pc := 61) dX9_around_61 rfl rfl hl0 ?_
          obtain ⟨g25, h⟩ := bt h
          obtain ⟨M19, e20, h⟩ := ob h
          refine x_callV (av := []) (st := []) (pc := 62) dX9_around_62 (E_X9_keepAct (d := d + 2) e20) rfl (Nat.le_of_ble_eq_true rfl) zc_X9_keepAct rfl zm_X9_287 zi_X9_keepAct zs_X9_keepAct (zac_ok g25) (by decide) rfl rfl (zst_ok rfl (Nat.le_of_ble_eq_true rfl)) rfl ?_
          refine x_aload_n (pc := 65) dX9_around_65 rfl rfl hl0 ?_
          obtain ⟨v21, e22, h⟩ := ob h
          refine y_getR (pc := 66) dX9_around_66 zf_X9_7 e22 ?_
          refine x_iload_n (pc := 69) dX9_around_69 rfl rfl ?_
          refine x_iload (pc := 70) dX9_around_70 rfl ?_
          obtain ⟨M23, e24, h⟩ := ob h
          refine x_callS (av := [.ref v21, .int l1, .int v12]) (st := []) (pc := 72) dX9_around_72 (E_X9_goes (d := d) e24) rfl (Nat.le_of_ble_eq_true rfl) zc_X9_goes rfl zm_X9_274 zs_X9_goes rfl (zst_ok rfl (Nat.le_of_ble_eq_true rfl)) rfl ?_
          refine x_iload (pc := 75) dX9_around_75 rfl ?_
          obtain ⟨rfl, rfl⟩ := s2 h
          exact y_retI (pc := 77) dX9_around_77 rfl
        · rw [if_pos c18] at h
          refine x_ldcw (pc := 57) dX9_around_57 zk_X9_286 ?_
          obtain ⟨rfl, rfl⟩ := s2 h
          exact y_retI (pc := 60) dX9_around_60 rfl
      · rw [if_pos c9] at h
        refine x_ldc (pc := 29) dX9_around_29 zk_X9_133 ?_
        obtain ⟨rfl, rfl⟩ := s2 h
        exact y_retI (pc := 31) dX9_around_31 rfl
    · rw [if_pos c6] at h
      refine x_ldc (pc := 16) dX9_around_16 zk_X9_238 ?_
      obtain ⟨rfl, rfl⟩ := s2 h
      exact y_retI (pc := 18) dX9_around_18 rfl
def f_X9_point (l0 : Nat) (l1 : Int32) (M : zM) : Option (Int32 × zM) := bif Nat.ble 1 l0 then (bif zac M l0 9 58 then ((f_X9_isWord l0 l1 M).bind fun r1 => if r1 = 0 then (some ((-1000000001), M)) else ((oR M l0 9 58 12).bind fun v4 => (aZ M v4 l1).bind fun v6 => if v6 = 0 then (some ((-1000000003), M)) else (bif zac M l0 9 58 then ((f_X9_keepAct l0 M).bind fun M9 => (oR M9 l0 9 58 0).bind fun v11 => (oR M9 l0 9 58 0).bind fun v13 => (aI M9 v13 4).bind fun v15 => (f_X9_up v15 1 M9).bind fun r17 => (sI M9 v11 4 r17).bind fun M19 => (oR M19 l0 9 58 0).bind fun v21 => (aI M19 v21 4).bind fun v23 => some (v23, M19)) else none))) else none) else none
theorem E_X9_point {G : zG} {d : Nat} {l0 : Nat} {l1 : Int32} {M MR : zM} {r : Int32} (h : f_X9_point l0 l1 M = some (r, MR)) : Ex G (d + 2) yX9_point cX9_point 2 (some .int) 0 (zent0 [.ref l0, .int l1] 2) [] M (some (.int r), MR) := by
  unfold f_X9_point at h
  obtain ⟨zz0, h⟩ := bt h
  have hl0 := bz zz0
  show Ex _ _ _ _ _ _ 0 [.ref l0, .int l1] [] _ _
  refine x_aload_n (pc := 0) dX9_point_0 rfl rfl hl0 ?_
  refine x_iload_n (pc := 1) dX9_point_1 rfl rfl ?_
  obtain ⟨g26, h⟩ := bt h
  obtain ⟨r1, e2, h⟩ := ob h
  refine x_callV (av := [.int l1]) (st := []) (pc := 2) dX9_point_2 (E_X9_isWord (d := d) e2) rfl (Nat.le_of_ble_eq_true rfl) zc_X9_isWord rfl zm_X9_235 zi_X9_isWord zs_X9_isWord (zac_ok g26) (by decide) rfl rfl (zst_ok rfl (Nat.le_of_ble_eq_true rfl)) rfl ?_
  refine x_if_ne (pc := 5) dX9_point_5 (t := 11) rfl (fun c3 => ?_) (fun c3 => ?_)
  · rw [if_neg c3] at h
    refine x_aload_n (pc := 11) dX9_point_11 rfl rfl hl0 ?_
    obtain ⟨v4, e5, h⟩ := ob h
    refine y_getR (pc := 12) dX9_point_12 zf_X9_28 e5 ?_
    refine x_iload_n (pc := 15) dX9_point_15 rfl rfl ?_
    obtain ⟨v6, e7, h⟩ := ob h
    refine y_zald (pc := 16) dX9_point_16 e7 ?_
    refine x_if_ne (pc := 17) dX9_point_17 (t := 24) rfl (fun c8 => ?_) (fun c8 => ?_)
    · rw [if_neg c8] at h
      refine x_aload_n (pc := 24) dX9_point_24 rfl rfl hl0 ?_
      obtain ⟨g25, h⟩ := bt h
      obtain ⟨M9, e10, h⟩ := ob h
      refine x_callV (av := []) (st := []) (pc := 25) dX9_point_25 (E_X9_keepAct (d := d + 1) e10) rfl (Nat.le_of_ble_eq_true rfl) zc_X9_keepAct rfl zm_X9_287 zi_X9_keepAct zs_X9_keepAct (zac_ok g25) (by decide) rfl rfl (zst_ok rfl (Nat.le_of_ble_eq_true rfl)) rfl ?_
      refine x_aload_n (pc := 28) dX9_point_28 rfl rfl hl0 ?_
      obtain ⟨v11, e12, h⟩ := ob h
      refine y_getR (pc := 29) dX9_point_29 zf_X9_7 e12 ?_
      refine x_iconst (pc := 32) dX9_point_32 (v := 4) rfl ?_
      refine x_aload_n (pc := 33) dX9_point_33 rfl rfl hl0 ?_
      obtain ⟨v13, e14, h⟩ := ob h
      refine y_getR (pc := 34) dX9_point_34 zf_X9_7 e14 ?_
      refine x_iconst (pc := 37) dX9_point_37 (v := 4) rfl ?_
      obtain ⟨v15, e16, h⟩ := ob h
      refine y_iald (pc := 38) dX9_point_38 e16 ?_
      refine x_iconst (pc := 39) dX9_point_39 (v := 1) rfl ?_
      obtain ⟨r17, e18, h⟩ := ob h
      refine x_callS (av := [.int v15, .int 1]) (st := [.int 4, .ref v11]) (pc := 40) dX9_point_40 (E_X9_up (d := d + 1) e18) rfl (Nat.le_of_ble_eq_true rfl) zc_X9_up rfl zm_X9_254 zs_X9_up rfl (zst_ok rfl (Nat.le_of_ble_eq_true rfl)) rfl ?_
      obtain ⟨M19, e20, h⟩ := ob h
      refine y_iast (pc := 43) dX9_point_43 e20 ?_
      refine x_aload_n (pc := 44) dX9_point_44 rfl rfl hl0 ?_
      obtain ⟨v21, e22, h⟩ := ob h
      refine y_getR (pc := 45) dX9_point_45 zf_X9_7 e22 ?_
      refine x_iconst (pc := 48) dX9_point_48 (v := 4) rfl ?_
      obtain ⟨v23, e24, h⟩ := ob h
      refine y_iald (pc := 49) dX9_point_49 e24 ?_
      obtain ⟨rfl, rfl⟩ := s2 h
      exact y_retI (pc := 50) dX9_point_50 rfl
    · rw [if_pos c8] at h
      refine x_ldcw (pc := 20) dX9_point_20 zk_X9_286 ?_
      obtain ⟨rfl, rfl⟩ := s2 h
      exact y_retI (pc := 23) dX9_point_23 rfl
  · rw [if_pos c3] at h
    refine x_ldc (pc := 8) dX9_point_8 zk_X9_238 ?_
    obtain ⟨rfl, rfl⟩ := s2 h
    exact y_retI (pc := 10) dX9_point_10 rfl
def f_X9_hoard (l0 : Nat) (l1 : Int32) (l2 : Int32) (l3 : Int32) (M : zM) : Option (Int32 × zM) := bif Nat.ble 1 l0 then (bif zac M l0 9 58 then ((f_X9_isPerson l0 l1 M).bind fun r1 => if r1 = 0 then (some ((-1000000001), M)) else (bif zac M l0 9 58 then ((f_X9_isWord l0 l2 M).bind fun r4 => if r4 = 0 then (some ((-1000000001), M)) else ((f_X9_in (Int32.toInt64 l3) 1 99 M).bind fun r7 => if r7 = 0 then (some ((-1000000002), M)) else ((oR M l0 9 58 0).bind fun v10 => (aI M v10 (13 + l2)).bind fun v12 => if l3 ≤ v12 then (bif zac M l0 9 58 then ((f_X9_keepAct l0 M).bind fun M15 => (oR M15 l0 9 58 0).bind fun v17 => (aI M15 v17 (13 + l2)).bind fun v19 => (sI M15 v17 (13 + l2) (v19 - l3)).bind fun M21 => (oR M21 l0 9 58 0).bind fun v23 => (aI M21 v23 ((29 + (8 * l1)) + l2)).bind fun v25 => (sI M21 v23 ((29 + (8 * l1)) + l2) (v25 + l3)).bind fun M27 => (oR M27 l0 9 58 0).bind fun v29 => (aI M27 v29 ((29 + (8 * l1)) + l2)).bind fun v31 => some (v31, M27)) else none) else (some ((-1000000003), M))))) else none)) else none) else none
set_option maxRecDepth 100000 in
set_option maxHeartbeats 2000000 in
theorem E_X9_hoard {G : zG} {d : Nat} {l0 : Nat} {l1 : Int32} {l2 : Int32} {l3 : Int32} {M MR : zM} {r : Int32} (h : f_X9_hoard l0 l1 l2 l3 M = some (r, MR)) : Ex G (d + 2) yX9_hoard cX9_hoard 4 (some .int) 0 (zent0 [.ref l0, .int l1, .int l2, .int l3] 4) [] M (some (.int r), MR) := by
  unfold f_X9_hoard at h
  obtain ⟨zz0, h⟩ := bt h
  have hl0 := bz zz0
  show Ex _ _ _ _ _ _ 0 [.ref l0, .int l1, .int l2, .int l3] [] _ _
  refine x_aload_n (pc := 0) dX9_hoard_0 rfl rfl hl0 ?_
  refine x_iload_n (pc := 1) dX9_hoard_1 rfl rfl ?_
  obtain ⟨g35, h⟩ := bt h
  obtain ⟨r1, e2, h⟩ := ob h
  refine x_callV (av := [.int l1]) (st := []) (pc := 2) dX9_hoard_2 (E_X9_isPerson (d := d) e2) rfl (Nat.le_of_ble_eq_true rfl) zc_X9_isPerson rfl zm_X9_243 zi_X9_isPerson zs_X9_isPerson (zac_ok g35) (by decide) rfl rfl (zst_ok rfl (Nat.le_of_ble_eq_true rfl)) rfl ?_
  refine x_if_eq (pc := 5) dX9_hoard_5 (t := 16) rfl (fun c3 => ?_) (fun c3 => ?_)
  · rw [if_pos c3] at h
    refine x_ldc (pc := 16) dX9_hoard_16 zk_X9_238 ?_
    obtain ⟨rfl, rfl⟩ := s2 h
    exact y_retI (pc := 18) dX9_hoard_18 rfl
  · rw [if_neg c3] at h
    refine x_aload_n (pc := 8) dX9_hoard_8 rfl rfl hl0 ?_
    refine x_iload_n (pc := 9) dX9_hoard_9 rfl rfl ?_
    obtain ⟨g34, h⟩ := bt h
    obtain ⟨r4, e5, h⟩ := ob h
    refine x_callV (av := [.int l2]) (st := []) (pc := 10) dX9_hoard_10 (E_X9_isWord (d := d) e5) rfl (Nat.le_of_ble_eq_true rfl) zc_X9_isWord rfl zm_X9_235 zi_X9_isWord zs_X9_isWord (zac_ok g34) (by decide) rfl rfl (zst_ok rfl (Nat.le_of_ble_eq_true rfl)) rfl ?_
    refine x_if_ne (pc := 13) dX9_hoard_13 (t := 19) rfl (fun c6 => ?_) (fun c6 => ?_)
    · rw [if_neg c6] at h
      refine x_iload_n (pc := 19) dX9_hoard_19 rfl rfl ?_
      refine x_i2l (pc := 20) dX9_hoard_20 ?_
      refine x_lconst (pc := 21) dX9_hoard_21 (v := 1) rfl ?_
      refine x_ldc2 (pc := 22) dX9_hoard_22 zk_X9_294 ?_
      obtain ⟨r7, e8, h⟩ := ob h
      refine x_callS (av := [.long (Int32.toInt64 l3), .long 1, .long 99]) (st := []) (pc := 25) dX9_hoard_25 (E_X9_in (d := d + 1) e8) rfl (Nat.le_of_ble_eq_true rfl) zc_X9_in rfl zm_X9_120 zs_X9_in rfl (zst_ok rfl (Nat.le_of_ble_eq_true rfl)) rfl ?_
      refine x_if_ne (pc := 28) dX9_hoard_28 (t := 34) rfl (fun c9 => ?_) (fun c9 => ?_)
      · rw [if_neg c9] at h
        refine x_aload_n (pc := 34) dX9_hoard_34 rfl rfl hl0 ?_
        obtain ⟨v10, e11, h⟩ := ob h
        refine y_getR (pc := 35) dX9_hoard_35 zf_X9_7 e11 ?_
        refine x_bipush (pc := 38) dX9_hoard_38 (v := 13) (by decide) ?_
        refine x_iload_n (pc := 40) dX9_hoard_40 rfl rfl ?_
        refine x_iadd (pc := 41) dX9_hoard_41 ?_
        obtain ⟨v12, e13, h⟩ := ob h
        refine y_iald (pc := 42) dX9_hoard_42 e13 ?_
        refine x_iload_n (pc := 43) dX9_hoard_43 rfl rfl ?_
        refine x_icmp_ge (pc := 44) dX9_hoard_44 (t := 51) rfl (fun c14 => ?_) (fun c14 => ?_)
        · rw [if_pos c14] at h
          refine x_aload_n (pc := 51) dX9_hoard_51 rfl rfl hl0 ?_
          obtain ⟨g33, h⟩ := bt h
          obtain ⟨M15, e16, h⟩ := ob h
          refine x_callV (av := []) (st := []) (pc := 52) dX9_hoard_52 (E_X9_keepAct (d := d + 1) e16) rfl (Nat.le_of_ble_eq_true rfl) zc_X9_keepAct rfl zm_X9_287 zi_X9_keepAct zs_X9_keepAct (zac_ok g33) (by decide) rfl rfl (zst_ok rfl (Nat.le_of_ble_eq_true rfl)) rfl ?_
          refine x_aload_n (pc := 55) dX9_hoard_55 rfl rfl hl0 ?_
          obtain ⟨v17, e18, h⟩ := ob h
          refine y_getR (pc := 56) dX9_hoard_56 zf_X9_7 e18 ?_
          refine x_bipush (pc := 59) dX9_hoard_59 (v := 13) (by decide) ?_
          refine x_iload_n (pc := 61) dX9_hoard_61 rfl rfl ?_
          refine x_iadd (pc := 62) dX9_hoard_62 ?_
          refine x_dup2 (pc := 63) dX9_hoard_63 rfl rv_cr ?_
          obtain ⟨v19, e20, h⟩ := ob h
          refine y_iald (pc := 64) dX9_hoard_64 e20 ?_
          refine x_iload_n (pc := 65) dX9_hoard_65 rfl rfl ?_
          refine x_isub (pc := 66) dX9_hoard_66 ?_
          obtain ⟨M21, e22, h⟩ := ob h
          refine y_iast (pc := 67) dX9_hoard_67 e22 ?_
          refine x_aload_n (pc := 68) dX9_hoard_68 rfl rfl hl0 ?_
          obtain ⟨v23, e24, h⟩ := ob h
          refine y_getR (pc := 69) dX9_hoard_69 zf_X9_7 e24 ?_
          refine x_bipush (pc := 72) dX9_hoard_72 (v := 29) (by decide) ?_
          refine x_bipush (pc := 74) dX9_hoard_74 (v := 8) (by decide) ?_
          refine x_iload_n (pc := 76) dX9_hoard_76 rfl rfl ?_
          refine x_imul (pc := 77) dX9_hoard_77 ?_
          refine x_iadd (pc := 78) dX9_hoard_78 ?_
          refine x_iload_n (pc := 79) dX9_hoard_79 rfl rfl ?_
          refine x_iadd (pc := 80) dX9_hoard_80 ?_
          refine x_dup2 (pc := 81) dX9_hoard_81 rfl rv_cr ?_
          obtain ⟨v25, e26, h⟩ := ob h
          refine y_iald (pc := 82) dX9_hoard_82 e26 ?_
          refine x_iload_n (pc := 83) dX9_hoard_83 rfl rfl ?_
          refine x_iadd (pc := 84) dX9_hoard_84 ?_
          obtain ⟨M27, e28, h⟩ := ob h
          refine y_iast (pc := 85) dX9_hoard_85 e28 ?_
          refine x_aload_n (pc := 86) dX9_hoard_86 rfl rfl hl0 ?_
          obtain ⟨v29, e30, h⟩ := ob h
          refine y_getR (pc := 87) dX9_hoard_87 zf_X9_7 e30 ?_
          refine x_bipush (pc := 90) dX9_hoard_90 (v := 29) (by decide) ?_
          refine x_bipush (pc := 92) dX9_hoard_92 (v := 8) (by decide) ?_
          refine x_iload_n (pc := 94) dX9_hoard_94 rfl rfl ?_
          refine x_imul (pc := 95) dX9_hoard_95 ?_
          refine x_iadd (pc := 96) dX9_hoard_96 ?_
          refine x_iload_n (pc := 97) dX9_hoard_97 rfl rfl ?_
          refine x_iadd (pc := 98) dX9_hoard_98 ?_
          obtain ⟨v31, e32, h⟩ := ob h
          refine y_iald (pc := 99) dX9_hoard_99 e32 ?_
          obtain ⟨rfl, rfl⟩ := s2 h
          exact y_retI (pc := 100) dX9_hoard_100 rfl
        · rw [if_neg c14] at h
          refine x_ldcw (pc := 47) dX9_hoard_47 zk_X9_286 ?_
          obtain ⟨rfl, rfl⟩ := s2 h
          exact y_retI (pc := 50) dX9_hoard_50 rfl
      · rw [if_pos c9] at h
        refine x_ldc (pc := 31) dX9_hoard_31 zk_X9_133 ?_
        obtain ⟨rfl, rfl⟩ := s2 h
        exact y_retI (pc := 33) dX9_hoard_33 rfl
    · rw [if_pos c6] at h
      refine x_ldc (pc := 16) dX9_hoard_16 zk_X9_238 ?_
      obtain ⟨rfl, rfl⟩ := s2 h
      exact y_retI (pc := 18) dX9_hoard_18 rfl
def f_X9_sell (l0 : Nat) (l1 : Int32) (l2 : Int32) (l3 : Int32) (l4 : Int32) (M : zM) : Option (Int32 × zM) := bif Nat.ble 1 l0 then (bif zac M l0 9 58 then ((f_X9_isPerson l0 l1 M).bind fun r1 => if r1 = 0 then (some ((-1000000001), M)) else (bif zac M l0 9 58 then ((f_X9_isPerson l0 l2 M).bind fun r4 => if r4 = 0 then (some ((-1000000001), M)) else (if l1 = l2 then (some ((-1000000001), M)) else (bif zac M l0 9 58 then ((f_X9_isWord l0 l3 M).bind fun r8 => if r8 = 0 then (some ((-1000000001), M)) else ((f_X9_in (Int32.toInt64 l4) 1 99 M).bind fun r11 => if r11 = 0 then (some ((-1000000002), M)) else ((oR M l0 9 58 0).bind fun v14 => (aI M v14 ((29 + (8 * l1)) + l3)).bind fun v16 => if l4 ≤ v16 then (bif zac M l0 9 58 then ((f_X9_keepAct l0 M).bind fun M19 => (oR M19 l0 9 58 0).bind fun v21 => (aI M19 v21 ((29 + (8 * l1)) + l3)).bind fun v23 => (sI M19 v21 ((29 + (8 * l1)) + l3) (v23 - l4)).bind fun M25 => (oR M25 l0 9 58 0).bind fun v27 => (aI M25 v27 ((29 + (8 * l2)) + l3)).bind fun v29 => (sI M25 v27 ((29 + (8 * l2)) + l3) (v29 + l4)).bind fun M31 => (oR M31 l0 9 58 0).bind fun v33 => (aI M31 v33 ((29 + (8 * l2)) + l3)).bind fun v35 => some (v35, M31)) else none) else (some ((-1000000003), M))))) else none))) else none)) else none) else none
set_option maxRecDepth 100000 in
set_option maxHeartbeats 2000000 in
theorem E_X9_sell {G : zG} {d : Nat} {l0 : Nat} {l1 : Int32} {l2 : Int32} {l3 : Int32} {l4 : Int32} {M MR : zM} {r : Int32} (h : f_X9_sell l0 l1 l2 l3 l4 M = some (r, MR)) : Ex G (d + 2) yX9_sell cX9_sell 5 (some .int) 0 (zent0 [.ref l0, .int l1, .int l2, .int l3, .int l4] 5) [] M (some (.int r), MR) := by
  unfold f_X9_sell at h
  obtain ⟨zz0, h⟩ := bt h
  have hl0 := bz zz0
  show Ex _ _ _ _ _ _ 0 [.ref l0, .int l1, .int l2, .int l3, .int l4] [] _ _
  refine x_aload_n (pc := 0) dX9_sell_0 rfl rfl hl0 ?_
  refine x_iload_n (pc := 1) dX9_sell_1 rfl rfl ?_
  obtain ⟨g40, h⟩ := bt h
  obtain ⟨r1, e2, h⟩ := ob h
  refine x_callV (av := [.int l1]) (st := []) (pc := 2) dX9_sell_2 (E_X9_isPerson (d := d) e2) rfl (Nat.le_of_ble_eq_true rfl) zc_X9_isPerson rfl zm_X9_243 zi_X9_isPerson zs_X9_isPerson (zac_ok g40) (by decide) rfl rfl (zst_ok rfl (Nat.le_of_ble_eq_true rfl)) rfl ?_
  refine x_if_eq (pc := 5) dX9_sell_5 (t := 29) rfl (fun c3 => ?_) (fun c3 => ?_)
  · rw [if_pos c3] at h
    refine x_ldc (pc := 29) dX9_sell_29 zk_X9_238 ?_
    obtain ⟨rfl, rfl⟩ := s2 h
    exact y_retI (pc := 31) dX9_sell_31 rfl
  · rw [if_neg c3] at h
    refine x_aload_n (pc := 8) dX9_sell_8 rfl rfl hl0 ?_
    refine x_iload_n (pc := 9) dX9_sell_9 rfl rfl ?_
    obtain ⟨g39, h⟩ := bt h
    obtain ⟨r4, e5, h⟩ := ob h
    refine x_callV (av := [.int l2]) (st := []) (pc := 10) dX9_sell_10 (E_X9_isPerson (d := d) e5) rfl (Nat.le_of_ble_eq_true rfl) zc_X9_isPerson rfl zm_X9_243 zi_X9_isPerson zs_X9_isPerson (zac_ok g39) (by decide) rfl rfl (zst_ok rfl (Nat.le_of_ble_eq_true rfl)) rfl ?_
    refine x_if_eq (pc := 13) dX9_sell_13 (t := 29) rfl (fun c6 => ?_) (fun c6 => ?_)
    · rw [if_pos c6] at h
      refine x_ldc (pc := 29) dX9_sell_29 zk_X9_238 ?_
      obtain ⟨rfl, rfl⟩ := s2 h
      exact y_retI (pc := 31) dX9_sell_31 rfl
    · rw [if_neg c6] at h
      refine x_iload_n (pc := 16) dX9_sell_16 rfl rfl ?_
      refine x_iload_n (pc := 17) dX9_sell_17 rfl rfl ?_
      refine x_icmp_eq (pc := 18) dX9_sell_18 (t := 29) rfl (fun c7 => ?_) (fun c7 => ?_)
      · rw [if_pos c7] at h
        refine x_ldc (pc := 29) dX9_sell_29 zk_X9_238 ?_
        obtain ⟨rfl, rfl⟩ := s2 h
        exact y_retI (pc := 31) dX9_sell_31 rfl
      · rw [if_neg c7] at h
        refine x_aload_n (pc := 21) dX9_sell_21 rfl rfl hl0 ?_
        refine x_iload_n (pc := 22) dX9_sell_22 rfl rfl ?_
        obtain ⟨g38, h⟩ := bt h
        obtain ⟨r8, e9, h⟩ := ob h
        refine x_callV (av := [.int l3]) (st := []) (pc := 23) dX9_sell_23 (E_X9_isWord (d := d) e9) rfl (Nat.le_of_ble_eq_true rfl) zc_X9_isWord rfl zm_X9_235 zi_X9_isWord zs_X9_isWord (zac_ok g38) (by decide) rfl rfl (zst_ok rfl (Nat.le_of_ble_eq_true rfl)) rfl ?_
        refine x_if_ne (pc := 26) dX9_sell_26 (t := 32) rfl (fun c10 => ?_) (fun c10 => ?_)
        · rw [if_neg c10] at h
          refine x_iload (pc := 32) dX9_sell_32 rfl ?_
          refine x_i2l (pc := 34) dX9_sell_34 ?_
          refine x_lconst (pc := 35) dX9_sell_35 (v := 1) rfl ?_
          refine x_ldc2 (pc := 36) dX9_sell_36 zk_X9_294 ?_
          obtain ⟨r11, e12, h⟩ := ob h
          refine x_callS (av := [.long (Int32.toInt64 l4), .long 1, .long 99]) (st := []) (pc := 39) dX9_sell_39 (E_X9_in (d := d + 1) e12) rfl (Nat.le_of_ble_eq_true rfl) zc_X9_in rfl zm_X9_120 zs_X9_in rfl (zst_ok rfl (Nat.le_of_ble_eq_true rfl)) rfl ?_
          refine x_if_ne (pc := 42) dX9_sell_42 (t := 48) rfl (fun c13 => ?_) (fun c13 => ?_)
          · rw [if_neg c13] at h
            refine x_aload_n (pc := 48) dX9_sell_48 rfl rfl hl0 ?_
            obtain ⟨v14, e15, h⟩ := ob h
            refine y_getR (pc := 49) dX9_sell_49 zf_X9_7 e15 ?_
            refine x_bipush (pc := 52) dX9_sell_52 (v := 29) (by decide) ?_
            refine x_bipush (pc := 54) dX9_sell_54 (v := 8) (by decide) ?_
            refine x_iload_n (pc := 56) dX9_sell_56 rfl rfl ?_
            refine x_imul (pc := 57) dX9_sell_57 ?_
            refine x_iadd (pc := 58) dX9_sell_58 ?_
            refine x_iload_n (pc := 59) dX9_sell_59 rfl rfl ?_
            refine x_iadd (pc := 60) dX9_sell_60 ?_
            obtain ⟨v16, e17, h⟩ := ob h
            refine y_iald (pc := 61) dX9_sell_61 e17 ?_
            refine x_iload (pc := 62) dX9_sell_62 rfl ?_
            refine x_icmp_ge (pc := 64) dX9_sell_64 (t := 71) rfl (fun c18 => ?_) (fun c18 => ?_)
            · rw [if_pos c18] at h
              refine x_aload_n (pc := 71) dX9_sell_71 rfl rfl hl0 ?_
              obtain ⟨g37, h⟩ := bt h
              obtain ⟨M19, e20, h⟩ := ob h
              refine x_callV (av := []) (st := []) (pc := 72) dX9_sell_72 (E_X9_keepAct (d := d + 1) e20) rfl (Nat.le_of_ble_eq_true rfl) zc_X9_keepAct rfl zm_X9_287 zi_X9_keepAct zs_X9_keepAct (zac_ok g37) (by decide) rfl rfl (zst_ok rfl (Nat.le_of_ble_eq_true rfl)) rfl ?_
              refine x_aload_n (pc := 75) dX9_sell_75 rfl rfl hl0 ?_
              obtain ⟨v21, e22, h⟩ := ob h
              refine y_getR (pc := 76) dX9_sell_76 zf_X9_7 e22 ?_
              refine x_bipush (pc := 79) dX9_sell_79 (v := 29) (by decide) ?_
              refine x_bipush (pc := 81) dX9_sell_81 (v := 8) (by decide) ?_
              refine x_iload_n (pc := 83) dX9_sell_83 rfl rfl ?_
              refine x_imul (pc := 84) dX9_sell_84 ?_
              refine x_iadd (pc := 85) dX9_sell_85 ?_
              refine x_iload_n (pc := 86) dX9_sell_86 rfl rfl ?_
              refine x_iadd (pc := 87) dX9_sell_87 ?_
              refine x_dup2 (pc := 88) dX9_sell_88 rfl rv_cr ?_
              obtain ⟨v23, e24, h⟩ := ob h
              refine y_iald (pc := 89) dX9_sell_89 e24 ?_
              refine x_iload (pc := 90) dX9_sell_90 rfl ?_
              refine x_isub (pc := 92) dX9_sell_92 ?_
              obtain ⟨M25, e26, h⟩ := ob h
              refine y_iast (pc := 93) dX9_sell_93 e26 ?_
              refine x_aload_n (pc := 94) dX9_sell_94 rfl rfl hl0 ?_
              obtain ⟨v27, e28, h⟩ := ob h
              refine y_getR (pc := 95) dX9_sell_95 zf_X9_7 e28 ?_
              refine x_bipush (pc := 98) dX9_sell_98 (v := 29) (by decide) ?_
              refine x_bipush (pc := 100) dX9_sell_100 (v := 8) (by decide) ?_
              refine x_iload_n (pc := 102) dX9_sell_102 rfl rfl ?_
              refine x_imul (pc := 103) dX9_sell_103 ?_
              refine x_iadd (pc := 104) dX9_sell_104 ?_
              refine x_iload_n (pc := 105) dX9_sell_105 rfl rfl ?_
              refine x_iadd (pc := 106) dX9_sell_106 ?_
              refine x_dup2 (pc := 107) dX9_sell_107 rfl rv_cr ?_
              obtain ⟨v29, e30, h⟩ := ob h
              refine y_iald (pc := 108) dX9_sell_108 e30 ?_
              refine x_iload (pc := 109) dX9_sell_109 rfl ?_
              refine x_iadd (pc := 111) dX9_sell_111 ?_
              obtain ⟨M31, e32, h⟩ := ob h
              refine y_iast (pc := 112) dX9_sell_112 e32 ?_
              refine x_aload_n (pc := 113) dX9_sell_113 rfl rfl hl0 ?_
              obtain ⟨v33, e34, h⟩ := ob h
              refine y_getR (pc := 114) dX9_sell_114 zf_X9_7 e34 ?_
              refine x_bipush (pc := 117) dX9_sell_117 (v := 29) (by decide) ?_
              refine x_bipush (pc := 119) dX9_sell_119 (v := 8) (by decide) ?_
              refine x_iload_n (pc := 121) dX9_sell_121 rfl rfl ?_
              refine x_imul (pc := 122) dX9_sell_122 ?_
              refine x_iadd (pc := 123) dX9_sell_123 ?_
              refine x_iload_n (pc := 124) dX9_sell_124 rfl rfl ?_
              refine x_iadd (pc := 125) dX9_sell_125 ?_
              obtain ⟨v35, e36, h⟩ := ob h
              refine y_iald (pc := 126) dX9_sell_126 e36 ?_
              obtain ⟨rfl, rfl⟩ := s2 h
              exact y_retI (pc := 127) dX9_sell_127 rfl
            · rw [if_neg c18] at h
              refine x_ldcw (pc := 67) dX9_sell_67 zk_X9_286 ?_
              obtain ⟨rfl, rfl⟩ := s2 h
              exact y_retI (pc := 70) dX9_sell_70 rfl
          · rw [if_pos c13] at h
            refine x_ldc (pc := 45) dX9_sell_45 zk_X9_133 ?_
            obtain ⟨rfl, rfl⟩ := s2 h
            exact y_retI (pc := 47) dX9_sell_47 rfl
        · rw [if_pos c10] at h
          refine x_ldc (pc := 29) dX9_sell_29 zk_X9_238 ?_
          obtain ⟨rfl, rfl⟩ := s2 h
          exact y_retI (pc := 31) dX9_sell_31 rfl
def f_X9_raise (l0 : Nat) (l1 : Int32) (l2 : Int32) (M : zM) : Option (Int32 × zM) := bif Nat.ble 1 l0 then (bif zac M l0 9 58 then ((f_X9_isWord l0 l1 M).bind fun r1 => if r1 = 0 then (some ((-1000000001), M)) else ((f_X9_in (Int32.toInt64 l2) 1 99 M).bind fun r4 => if r4 = 0 then (some ((-1000000002), M)) else ((oR M l0 9 58 0).bind fun v7 => (aI M v7 (5 + l1)).bind fun v9 => if v9 + l2 ≤ 99 then (bif zac M l0 9 58 then ((f_X9_keepAct l0 M).bind fun M12 => (oR M12 l0 9 58 0).bind fun v14 => (aI M12 v14 (5 + l1)).bind fun v16 => (sI M12 v14 (5 + l1) (v16 + l2)).bind fun M18 => (oR M18 l0 9 58 0).bind fun v20 => (aI M18 v20 (13 + l1)).bind fun v22 => (sI M18 v20 (13 + l1) (v22 + l2)).bind fun M24 => (oR M24 l0 9 58 0).bind fun v26 => (aI M24 v26 (5 + l1)).bind fun v28 => some (v28, M24)) else none) else (some ((-1000000003), M))))) else none) else none
theorem E_X9_raise {G : zG} {d : Nat} {l0 : Nat} {l1 : Int32} {l2 : Int32} {M MR : zM} {r : Int32} (h : f_X9_raise l0 l1 l2 M = some (r, MR)) : Ex G (d + 2) yX9_raise cX9_raise 3 (some .int) 0 (zent0 [.ref l0, .int l1, .int l2] 3) [] M (some (.int r), MR) := by
  unfold f_X9_raise at h
  obtain ⟨zz0, h⟩ := bt h
  have hl0 := bz zz0
  show Ex _ _ _ _ _ _ 0 [.ref l0, .int l1, .int l2] [] _ _
  refine x_aload_n (pc := 0) dX9_raise_0 rfl rfl hl0 ?_
  refine x_iload_n (pc := 1) dX9_raise_1 rfl rfl ?_
  obtain ⟨g31, h⟩ := bt h
  obtain ⟨r1, e2, h⟩ := ob h
  refine x_callV (av := [.int l1]) (st := []) (pc := 2) dX9_raise_2 (E_X9_isWord (d := d) e2) rfl (Nat.le_of_ble_eq_true rfl) zc_X9_isWord rfl zm_X9_235 zi_X9_isWord zs_X9_isWord (zac_ok g31) (by decide) rfl rfl (zst_ok rfl (Nat.le_of_ble_eq_true rfl)) rfl ?_
  refine x_if_ne (pc := 5) dX9_raise_5 (t := 11) rfl (fun c3 => ?_) (fun c3 => ?_)
  · rw [if_neg c3] at h
    refine x_iload_n (pc := 11) dX9_raise_11 rfl rfl ?_
    refine x_i2l (pc := 12) dX9_raise_12 ?_
    refine x_lconst (pc := 13) dX9_raise_13 (v := 1) rfl ?_
    refine x_ldc2 (pc := 14) dX9_raise_14 zk_X9_294 ?_
    obtain ⟨r4, e5, h⟩ := ob h
    refine x_callS (av := [.long (Int32.toInt64 l2), .long 1, .long 99]) (st := []) (pc := 17) dX9_raise_17 (E_X9_in (d := d + 1) e5) rfl (Nat.le_of_ble_eq_true rfl) zc_X9_in rfl zm_X9_120 zs_X9_in rfl (zst_ok rfl (Nat.le_of_ble_eq_true rfl)) rfl ?_
    refine x_if_ne (pc := 20) dX9_raise_20 (t := 26) rfl (fun c6 => ?_) (fun c6 => ?_)
    · rw [if_neg c6] at h
      refine x_aload_n (pc := 26) dX9_raise_26 rfl rfl hl0 ?_
      obtain ⟨v7, e8, h⟩ := ob h
      refine y_getR (pc := 27) dX9_raise_27 zf_X9_7 e8 ?_
      refine x_iconst (pc := 30) dX9_raise_30 (v := 5) rfl ?_
      refine x_iload_n (pc := 31) dX9_raise_31 rfl rfl ?_
      refine x_iadd (pc := 32) dX9_raise_32 ?_
      obtain ⟨v9, e10, h⟩ := ob h
      refine y_iald (pc := 33) dX9_raise_33 e10 ?_
      refine x_iload_n (pc := 34) dX9_raise_34 rfl rfl ?_
      refine x_iadd (pc := 35) dX9_raise_35 ?_
      refine x_bipush (pc := 36) dX9_raise_36 (v := 99) (by decide) ?_
      refine x_icmp_le (pc := 38) dX9_raise_38 (t := 45) rfl (fun c11 => ?_) (fun c11 => ?_)
      · rw [if_pos c11] at h
        refine x_aload_n (pc := 45) dX9_raise_45 rfl rfl hl0 ?_
        obtain ⟨g30, h⟩ := bt h
        obtain ⟨M12, e13, h⟩ := ob h
        refine x_callV (av := []) (st := []) (pc := 46) dX9_raise_46 (E_X9_keepAct (d := d + 1) e13) rfl (Nat.le_of_ble_eq_true rfl) zc_X9_keepAct rfl zm_X9_287 zi_X9_keepAct zs_X9_keepAct (zac_ok g30) (by decide) rfl rfl (zst_ok rfl (Nat.le_of_ble_eq_true rfl)) rfl ?_
        refine x_aload_n (pc := 49) dX9_raise_49 rfl rfl hl0 ?_
        obtain ⟨v14, e15, h⟩ := ob h
        refine y_getR (pc := 50) dX9_raise_50 zf_X9_7 e15 ?_
        refine x_iconst (pc := 53) dX9_raise_53 (v := 5) rfl ?_
        refine x_iload_n (pc := 54) dX9_raise_54 rfl rfl ?_
        refine x_iadd (pc := 55) dX9_raise_55 ?_
        refine x_dup2 (pc := 56) dX9_raise_56 rfl rv_cr ?_
        obtain ⟨v16, e17, h⟩ := ob h
        refine y_iald (pc := 57) dX9_raise_57 e17 ?_
        refine x_iload_n (pc := 58) dX9_raise_58 rfl rfl ?_
        refine x_iadd (pc := 59) dX9_raise_59 ?_
        obtain ⟨M18, e19, h⟩ := ob h
        refine y_iast (pc := 60) dX9_raise_60 e19 ?_
        refine x_aload_n (pc := 61) dX9_raise_61 rfl rfl hl0 ?_
        obtain ⟨v20, e21, h⟩ := ob h
        refine y_getR (pc := 62) dX9_raise_62 zf_X9_7 e21 ?_
        refine x_bipush (pc := 65) dX9_raise_65 (v := 13) (by decide) ?_
        refine x_iload_n (pc := 67) dX9_raise_67 rfl rfl ?_
        refine x_iadd (pc := 68) dX9_raise_68 ?_
        refine x_dup2 (pc := 69) dX9_raise_69 rfl rv_cr ?_
        obtain ⟨v22, e23, h⟩ := ob h
        refine y_iald (pc := 70) dX9_raise_70 e23 ?_
        refine x_iload_n (pc := 71) dX9_raise_71 rfl rfl ?_
        refine x_iadd (pc := 72) dX9_raise_72 ?_
        obtain ⟨M24, e25, h⟩ := ob h
        refine y_iast (pc := 73) dX9_raise_73 e25 ?_
        refine x_aload_n (pc := 74) dX9_raise_74 rfl rfl hl0 ?_
        obtain ⟨v26, e27, h⟩ := ob h
        refine y_getR (pc := 75) dX9_raise_75 zf_X9_7 e27 ?_
        refine x_iconst (pc := 78) dX9_raise_78 (v := 5) rfl ?_
        refine x_iload_n (pc := 79) dX9_raise_79 rfl rfl ?_
        refine x_iadd (pc := 80) dX9_raise_80 ?_
        obtain ⟨v28, e29, h⟩ := ob h
        refine y_iald (pc := 81) dX9_raise_81 e29 ?_
        obtain ⟨rfl, rfl⟩ := s2 h
        exact y_retI (pc := 82) dX9_raise_82 rfl
      · rw [if_neg c11] at h
        refine x_ldcw (pc := 41) dX9_raise_41 zk_X9_286 ?_
        obtain ⟨rfl, rfl⟩ := s2 h
        exact y_retI (pc := 44) dX9_raise_44 rfl
    · rw [if_pos c6] at h
      refine x_ldc (pc := 23) dX9_raise_23 zk_X9_133 ?_
      obtain ⟨rfl, rfl⟩ := s2 h
      exact y_retI (pc := 25) dX9_raise_25 rfl
  · rw [if_pos c3] at h
    refine x_ldc (pc := 8) dX9_raise_8 zk_X9_238 ?_
    obtain ⟨rfl, rfl⟩ := s2 h
    exact y_retI (pc := 10) dX9_raise_10 rfl
def f_X9_draw (l0 : Nat) (l1 : Int32) (M : zM) : Option (Int32 × zM) := bif Nat.ble 1 l0 then ((oI M l0 9 58 4).bind fun v1 => (pI M l0 9 58 4 (Int64.toInt32 ((((Int32.toInt64 v1) * 1103515245) + 12345) &&& 2147483647))).bind fun M3 => (oI M3 l0 9 58 4).bind fun v5 => (dv v5 65536).bind fun v7 => (rm v7 l1).bind fun v9 => some (v9, M3)) else none
theorem E_X9_draw {G : zG} {d : Nat} {l0 : Nat} {l1 : Int32} {M MR : zM} {r : Int32} (h : f_X9_draw l0 l1 M = some (r, MR)) : Ex G d yX9_draw cX9_draw 2 (some .int) 0 (zent0 [.ref l0, .int l1] 2) [] M (some (.int r), MR) := by
  unfold f_X9_draw at h
  obtain ⟨zz0, h⟩ := bt h
  have hl0 := bz zz0
  show Ex _ _ _ _ _ _ 0 [.ref l0, .int l1] [] _ _
  refine x_aload_n (pc := 0) dX9_draw_0 rfl rfl hl0 ?_
  refine x_aload_n (pc := 1) dX9_draw_1 rfl rfl hl0 ?_
  obtain ⟨v1, e2, h⟩ := ob h
  refine y_getI (pc := 2) dX9_draw_2 zf_X9_296 e2 (by decide) ?_
  refine x_i2l (pc := 5) dX9_draw_5 ?_
  refine x_ldc2 (pc := 6) dX9_draw_6 zk_X9_299 ?_
  refine x_lmul (pc := 9) dX9_draw_9 ?_
  refine x_ldc2 (pc := 10) dX9_draw_10 zk_X9_301 ?_
  refine x_ladd (pc := 13) dX9_draw_13 ?_
  refine x_ldc2 (pc := 14) dX9_draw_14 zk_X9_303 ?_
  refine x_land (pc := 17) dX9_draw_17 ?_
  refine x_l2i (pc := 18) dX9_draw_18 ?_
  obtain ⟨M3, e4, h⟩ := ob h
  refine y_putI (pc := 19) dX9_draw_19 zf_X9_296 e4 ?_
  refine x_aload_n (pc := 22) dX9_draw_22 rfl rfl hl0 ?_
  obtain ⟨v5, e6, h⟩ := ob h
  refine y_getI (pc := 23) dX9_draw_23 zf_X9_296 e6 (by decide) ?_
  refine x_ldcw (pc := 26) dX9_draw_26 zk_X9_305 ?_
  obtain ⟨v7, e8, h⟩ := ob h
  refine y_idiv (pc := 29) dX9_draw_29 e8 ?_
  refine x_iload_n (pc := 30) dX9_draw_30 rfl rfl ?_
  obtain ⟨v9, e10, h⟩ := ob h
  refine y_irem (pc := 31) dX9_draw_31 e10 ?_
  obtain ⟨rfl, rfl⟩ := s2 h
  exact y_retI (pc := 32) dX9_draw_32 rfl
def f_X9_drawn (l0 : Nat) (M : zM) : Option (zM) := bif Nat.ble 1 l0 then ((oI M l0 9 58 7).bind fun v1 => bif zac M l0 9 58 then (b2 (f_X9_draw l0 v1 M) fun r3 M4 => (oI M4 l0 9 58 6).bind fun v6 => bif zac M4 l0 9 58 then (b2 (f_X9_draw l0 v6 M4) fun r8 M9 => bif zac M9 l0 9 58 then (b2 (f_X9_draw l0 4 M9) fun r11 M12 => if r11 = 0 then ((oR M12 l0 9 58 0).bind fun v15 => (f_X9_canSay v15 r3 r8 M12).bind fun r17 => if r17 = 0 then (some M12) else ((oR M12 l0 9 58 0).bind fun v20 => (f_X9_says v20 r3 r8 M12).bind fun M22 => some M22)) else (if r11 = 1 then ((oR M12 l0 9 58 0).bind fun v25 => (aI M12 v25 (13 + r8)).bind fun v27 => if v27 ≤ 0 then (some M12) else ((oR M12 l0 9 58 0).bind fun v30 => (aI M12 v30 (13 + r8)).bind fun v32 => (sI M12 v30 (13 + r8) (v32 - 1)).bind fun M34 => (oR M34 l0 9 58 0).bind fun v36 => (aI M34 v36 ((29 + (8 * r3)) + r8)).bind fun v38 => (sI M34 v36 ((29 + (8 * r3)) + r8) (v38 + 1)).bind fun M40 => some M40)) else (if r11 = 2 then ((oR M12 l0 9 58 0).bind fun v43 => (oR M12 l0 9 58 11).bind fun v45 => (aI M12 v45 (2 * r8)).bind fun v47 => (f_X9_canGo v43 r3 v47 M12).bind fun r49 => if r49 = 0 then (some M12) else ((oR M12 l0 9 58 0).bind fun v52 => (oR M12 l0 9 58 11).bind fun v54 => (aI M12 v54 (2 * r8)).bind fun v56 => (f_X9_goes v52 r3 v56 M12).bind fun M58 => some M58)) else ((oR M12 l0 9 58 0).bind fun v60 => (oR M12 l0 9 58 0).bind fun v62 => (aI M12 v62 4).bind fun v64 => (oR M12 l0 9 58 12).bind fun v66 => (aZ M12 v66 r8).bind fun v68 => if v68 = 0 then ((f_X9_up v64 0 M12).bind fun r71 => (sI M12 v60 4 r71).bind fun M73 => some M73) else ((f_X9_up v64 1 M12).bind fun r75 => (sI M12 v60 4 r75).bind fun M77 => some M77))))) else none) else none) else none) else none
set_option maxRecDepth 100000 in
set_option maxHeartbeats 2000000 in
theorem E_X9_drawn {G : zG} {d : Nat} {l0 : Nat} {M MR : zM} (h : f_X9_drawn l0 M = some MR) : Ex G (d + 3) yX9_drawn cX9_drawn 4 none 0 (zent0 [.ref l0] 4) [] M (none, MR) := by
  unfold f_X9_drawn at h
  obtain ⟨zz0, h⟩ := bt h
  have hl0 := bz zz0
  show Ex _ _ _ _ _ _ 0 [.ref l0, .null, .null, .null] [] _ _
  refine x_aload_n (pc := 0) dX9_drawn_0 rfl rfl hl0 ?_
  refine x_aload_n (pc := 1) dX9_drawn_1 rfl rfl hl0 ?_
  obtain ⟨v1, e2, h⟩ := ob h
  refine y_getI (pc := 2) dX9_drawn_2 zf_X9_124 e2 (by decide) ?_
  obtain ⟨g81, h⟩ := bt h
  obtain ⟨r3, M4, e5, h⟩ := ob2 h
  refine x_callV (av := [.int v1]) (st := []) (pc := 5) dX9_drawn_5 (E_X9_draw (d := d + 2) e5) rfl (Nat.le_of_ble_eq_true rfl) zc_X9_draw rfl zm_X9_306 zi_X9_draw zs_X9_draw (zac_ok g81) (by decide) rfl rfl (zst_ok rfl (Nat.le_of_ble_eq_true rfl)) rfl ?_
  refine x_istore_n (pc := 8) dX9_drawn_8 rfl (by decide) rfl ?_
  refine x_aload_n (pc := 9) dX9_drawn_9 rfl rfl hl0 ?_
  refine x_aload_n (pc := 10) dX9_drawn_10 rfl rfl hl0 ?_
  obtain ⟨v6, e7, h⟩ := ob h
  refine y_getI (pc := 11) dX9_drawn_11 zf_X9_117 e7 (by decide) ?_
  obtain ⟨g80, h⟩ := bt h
  obtain ⟨r8, M9, e10, h⟩ := ob2 h
  refine x_callV (av := [.int v6]) (st := []) (pc := 14) dX9_drawn_14 (E_X9_draw (d := d + 2) e10) rfl (Nat.le_of_ble_eq_true rfl) zc_X9_draw rfl zm_X9_306 zi_X9_draw zs_X9_draw (zac_ok g80) (by decide) rfl rfl (zst_ok rfl (Nat.le_of_ble_eq_true rfl)) rfl ?_
  refine x_istore_n (pc := 17) dX9_drawn_17 rfl (by decide) rfl ?_
  refine x_aload_n (pc := 18) dX9_drawn_18 rfl rfl hl0 ?_
  refine x_iconst (pc := 19) dX9_drawn_19 (v := 4) rfl ?_
  obtain ⟨g79, h⟩ := bt h
  obtain ⟨r11, M12, e13, h⟩ := ob2 h
  refine x_callV (av := [.int 4]) (st := []) (pc := 20) dX9_drawn_20 (E_X9_draw (d := d + 2) e13) rfl (Nat.le_of_ble_eq_true rfl) zc_X9_draw rfl zm_X9_306 zi_X9_draw zs_X9_draw (zac_ok g79) (by decide) rfl rfl (zst_ok rfl (Nat.le_of_ble_eq_true rfl)) rfl ?_
  refine x_istore_n (pc := 23) dX9_drawn_23 rfl (by decide) rfl ?_
  refine x_iload_n (pc := 24) dX9_drawn_24 rfl rfl ?_
  by_cases c14 : r11 = 0
  · rw [if_pos c14] at h
    refine y_tableIn (pc := 25) dX9_drawn_25 c14 (q := 0) (off := 27) (t := 52) (by decide) (by decide) (by decide) rfl ?_
    refine x_aload_n (pc := 52) dX9_drawn_52 rfl rfl hl0 ?_
    obtain ⟨v15, e16, h⟩ := ob h
    refine y_getR (pc := 53) dX9_drawn_53 zf_X9_7 e16 ?_
    refine x_iload_n (pc := 56) dX9_drawn_56 rfl rfl ?_
    refine x_iload_n (pc := 57) dX9_drawn_57 rfl rfl ?_
    obtain ⟨r17, e18, h⟩ := ob h
    refine x_callS (av := [.ref v15, .int r3, .int r8]) (st := []) (pc := 58) dX9_drawn_58 (E_X9_canSay (d := d + 2) e18) rfl (Nat.le_of_ble_eq_true rfl) zc_X9_canSay rfl zm_X9_257 zs_X9_canSay rfl (zst_ok rfl (Nat.le_of_ble_eq_true rfl)) rfl ?_
    refine x_if_eq (pc := 61) dX9_drawn_61 (t := 189) rfl (fun c19 => ?_) (fun c19 => ?_)
    · rw [if_pos c19] at h
      obtain rfl := s1 h
      exact x_vret (pc := 189) dX9_drawn_189 rfl
    · rw [if_neg c19] at h
      refine x_aload_n (pc := 64) dX9_drawn_64 rfl rfl hl0 ?_
      obtain ⟨v20, e21, h⟩ := ob h
      refine y_getR (pc := 65) dX9_drawn_65 zf_X9_7 e21 ?_
      refine x_iload_n (pc := 68) dX9_drawn_68 rfl rfl ?_
      refine x_iload_n (pc := 69) dX9_drawn_69 rfl rfl ?_
      obtain ⟨M22, e23, h⟩ := ob h
      refine x_callS (av := [.ref v20, .int r3, .int r8]) (st := []) (pc := 70) dX9_drawn_70 (E_X9_says (d := d + 1) e23) rfl (Nat.le_of_ble_eq_true rfl) zc_X9_says rfl zm_X9_261 zs_X9_says rfl (zst_ok rfl (Nat.le_of_ble_eq_true rfl)) rfl ?_
      refine x_goto (pc := 73) dX9_drawn_73 (t := 189) rfl ?_
      obtain rfl := s1 h
      exact x_vret (pc := 189) dX9_drawn_189 rfl
  · rw [if_neg c14] at h
    by_cases c24 : r11 = 1
    · rw [if_pos c24] at h
      refine y_tableIn (pc := 25) dX9_drawn_25 c24 (q := 1) (off := 51) (t := 76) (by decide) (by decide) (by decide) rfl ?_
      refine x_aload_n (pc := 76) dX9_drawn_76 rfl rfl hl0 ?_
      obtain ⟨v25, e26, h⟩ := ob h
      refine y_getR (pc := 77) dX9_drawn_77 zf_X9_7 e26 ?_
      refine x_bipush (pc := 80) dX9_drawn_80 (v := 13) (by decide) ?_
      refine x_iload_n (pc := 82) dX9_drawn_82 rfl rfl ?_
      refine x_iadd (pc := 83) dX9_drawn_83 ?_
      obtain ⟨v27, e28, h⟩ := ob h
      refine y_iald (pc := 84) dX9_drawn_84 e28 ?_
      refine x_if_le (pc := 85) dX9_drawn_85 (t := 189) rfl (fun c29 => ?_) (fun c29 => ?_)
      · rw [if_pos c29] at h
        obtain rfl := s1 h
        exact x_vret (pc := 189) dX9_drawn_189 rfl
      · rw [if_neg c29] at h
        refine x_aload_n (pc := 88) dX9_drawn_88 rfl rfl hl0 ?_
        obtain ⟨v30, e31, h⟩ := ob h
        refine y_getR (pc := 89) dX9_drawn_89 zf_X9_7 e31 ?_
        refine x_bipush (pc := 92) dX9_drawn_92 (v := 13) (by decide) ?_
        refine x_iload_n (pc := 94) dX9_drawn_94 rfl rfl ?_
        refine x_iadd (pc := 95) dX9_drawn_95 ?_
        refine x_dup2 (pc := 96) dX9_drawn_96 rfl rv_cr ?_
        obtain ⟨v32, e33, h⟩ := ob h
        refine y_iald (pc := 97) dX9_drawn_97 e33 ?_
        refine x_iconst (pc := 98) dX9_drawn_98 (v := 1) rfl ?_
        refine x_isub (pc := 99) dX9_drawn_99 ?_
        obtain ⟨M34, e35, h⟩ := ob h
        refine y_iast (pc := 100) dX9_drawn_100 e35 ?_
        refine x_aload_n (pc := 101) dX9_drawn_101 rfl rfl hl0 ?_
        obtain ⟨v36, e37, h⟩ := ob h
        refine y_getR (pc := 102) dX9_drawn_102 zf_X9_7 e37 ?_
        refine x_bipush (pc := 105) dX9_drawn_105 (v := 29) (by decide) ?_
        refine x_bipush (pc := 107) dX9_drawn_107 (v := 8) (by decide) ?_
        refine x_iload_n (pc := 109) dX9_drawn_109 rfl rfl ?_
        refine x_imul (pc := 110) dX9_drawn_110 ?_
        refine x_iadd (pc := 111) dX9_drawn_111 ?_
        refine x_iload_n (pc := 112) dX9_drawn_112 rfl rfl ?_
        refine x_iadd (pc := 113) dX9_drawn_113 ?_
        refine x_dup2 (pc := 114) dX9_drawn_114 rfl rv_cr ?_
        obtain ⟨v38, e39, h⟩ := ob h
        refine y_iald (pc := 115) dX9_drawn_115 e39 ?_
        refine x_iconst (pc := 116) dX9_drawn_116 (v := 1) rfl ?_
        refine x_iadd (pc := 117) dX9_drawn_117 ?_
        obtain ⟨M40, e41, h⟩ := ob h
        refine y_iast (pc := 118) dX9_drawn_118 e41 ?_
        refine x_goto (pc := 119) dX9_drawn_119 (t := 189) rfl ?_
        obtain rfl := s1 h
        exact x_vret (pc := 189) dX9_drawn_189 rfl
    · rw [if_neg c24] at h
      by_cases c42 : r11 = 2
      · rw [if_pos c42] at h
        refine y_tableIn (pc := 25) dX9_drawn_25 c42 (q := 2) (off := 97) (t := 122) (by decide) (by decide) (by decide) rfl ?_
        refine x_aload_n (pc := 122) dX9_drawn_122 rfl rfl hl0 ?_
        obtain ⟨v43, e44, h⟩ := ob h
        refine y_getR (pc := 123) dX9_drawn_123 zf_X9_7 e44 ?_
        refine x_iload_n (pc := 126) dX9_drawn_126 rfl rfl ?_
        refine x_aload_n (pc := 127) dX9_drawn_127 rfl rfl hl0 ?_
        obtain ⟨v45, e46, h⟩ := ob h
        refine y_getR (pc := 128) dX9_drawn_128 zf_X9_25 e46 ?_
        refine x_iconst (pc := 131) dX9_drawn_131 (v := 2) rfl ?_
        refine x_iload_n (pc := 132) dX9_drawn_132 rfl rfl ?_
        refine x_imul (pc := 133) dX9_drawn_133 ?_
        obtain ⟨v47, e48, h⟩ := ob h
        refine y_iald (pc := 134) dX9_drawn_134 e48 ?_
        obtain ⟨r49, e50, h⟩ := ob h
        refine x_callS (av := [.ref v43, .int r3, .int v47]) (st := []) (pc := 135) dX9_drawn_135 (E_X9_canGo (d := d + 1) e50) rfl (Nat.le_of_ble_eq_true rfl) zc_X9_canGo rfl zm_X9_271 zs_X9_canGo rfl (zst_ok rfl (Nat.le_of_ble_eq_true rfl)) rfl ?_
        refine x_if_eq (pc := 138) dX9_drawn_138 (t := 189) rfl (fun c51 => ?_) (fun c51 => ?_)
        · rw [if_pos c51] at h
          obtain rfl := s1 h
          exact x_vret (pc := 189) dX9_drawn_189 rfl
        · rw [if_neg c51] at h
          refine x_aload_n (pc := 141) dX9_drawn_141 rfl rfl hl0 ?_
          obtain ⟨v52, e53, h⟩ := ob h
          refine y_getR (pc := 142) dX9_drawn_142 zf_X9_7 e53 ?_
          refine x_iload_n (pc := 145) dX9_drawn_145 rfl rfl ?_
          refine x_aload_n (pc := 146) dX9_drawn_146 rfl rfl hl0 ?_
          obtain ⟨v54, e55, h⟩ := ob h
          refine y_getR (pc := 147) dX9_drawn_147 zf_X9_25 e55 ?_
          refine x_iconst (pc := 150) dX9_drawn_150 (v := 2) rfl ?_
          refine x_iload_n (pc := 151) dX9_drawn_151 rfl rfl ?_
          refine x_imul (pc := 152) dX9_drawn_152 ?_
          obtain ⟨v56, e57, h⟩ := ob h
          refine y_iald (pc := 153) dX9_drawn_153 e57 ?_
          obtain ⟨M58, e59, h⟩ := ob h
          refine x_callS (av := [.ref v52, .int r3, .int v56]) (st := []) (pc := 154) dX9_drawn_154 (E_X9_goes (d := d) e59) rfl (Nat.le_of_ble_eq_true rfl) zc_X9_goes rfl zm_X9_274 zs_X9_goes rfl (zst_ok rfl (Nat.le_of_ble_eq_true rfl)) rfl ?_
          refine x_goto (pc := 157) dX9_drawn_157 (t := 189) rfl ?_
          obtain rfl := s1 h
          exact x_vret (pc := 189) dX9_drawn_189 rfl
      · rw [if_neg c42] at h
        refine x_tableOut (pc := 25) dX9_drawn_25 (y_out (n := 2) (by decide) (fun j hj => ?_)) (t := 160) rfl ?_
        · match j, hj with
          | 0, _ => exact c14
          | 1, _ => exact c24
          | 2, _ => exact c42
          | j + 3, hj => omega
        · refine x_aload_n (pc := 160) dX9_drawn_160 rfl rfl hl0 ?_
          obtain ⟨v60, e61, h⟩ := ob h
          refine y_getR (pc := 161) dX9_drawn_161 zf_X9_7 e61 ?_
          refine x_iconst (pc := 164) dX9_drawn_164 (v := 4) rfl ?_
          refine x_aload_n (pc := 165) dX9_drawn_165 rfl rfl hl0 ?_
          obtain ⟨v62, e63, h⟩ := ob h
          refine y_getR (pc := 166) dX9_drawn_166 zf_X9_7 e63 ?_
          refine x_iconst (pc := 169) dX9_drawn_169 (v := 4) rfl ?_
          obtain ⟨v64, e65, h⟩ := ob h
          refine y_iald (pc := 170) dX9_drawn_170 e65 ?_
          refine x_aload_n (pc := 171) dX9_drawn_171 rfl rfl hl0 ?_
          obtain ⟨v66, e67, h⟩ := ob h
          refine y_getR (pc := 172) dX9_drawn_172 zf_X9_28 e67 ?_
          refine x_iload_n (pc := 175) dX9_drawn_175 rfl rfl ?_
          obtain ⟨v68, e69, h⟩ := ob h
          refine y_zald (pc := 176) dX9_drawn_176 e69 ?_
          refine x_if_eq (pc := 177) dX9_drawn_177 (t := 184) rfl (fun c70 => ?_) (fun c70 => ?_)
          · rw [if_pos c70] at h
            refine x_iconst (pc := 184) dX9_drawn_184 (v := 0) rfl ?_
            obtain ⟨r71, e72, h⟩ := ob h
            refine x_callS (av := [.int v64, .int 0]) (st := [.int 4, .ref v60]) (pc := 185) dX9_drawn_185 (E_X9_up (d := d + 2) e72) rfl (Nat.le_of_ble_eq_true rfl) zc_X9_up rfl zm_X9_254 zs_X9_up rfl (zst_ok rfl (Nat.le_of_ble_eq_true rfl)) rfl ?_
            obtain ⟨M73, e74, h⟩ := ob h
            refine y_iast (pc := 188) dX9_drawn_188 e74 ?_
            obtain rfl := s1 h
            exact x_vret (pc := 189) dX9_drawn_189 rfl
          · rw [if_neg c70] at h
            refine x_iconst (pc := 180) dX9_drawn_180 (v := 1) rfl ?_
            refine x_goto (pc := 181) dX9_drawn_181 (t := 185) rfl ?_
            obtain ⟨r75, e76, h⟩ := ob h
            refine x_callS (av := [.int v64, .int 1]) (st := [.int 4, .ref v60]) (pc := 185) dX9_drawn_185 (E_X9_up (d := d + 2) e76) rfl (Nat.le_of_ble_eq_true rfl) zc_X9_up rfl zm_X9_254 zs_X9_up rfl (zst_ok rfl (Nat.le_of_ble_eq_true rfl)) rfl ?_
            obtain ⟨M77, e78, h⟩ := ob h
            refine y_iast (pc := 188) dX9_drawn_188 e78 ?_
            obtain rfl := s1 h
            exact x_vret (pc := 189) dX9_drawn_189 rfl
def L_X9_drift_47 : Nat → Nat → Int32 → Int32 → zM → Option (zM)
  | 0, _, _, _, _ => none
  | n + 1, l0, l1, l2, M => if l1 ≤ l2 then (some M) else ((oI M l0 9 58 7).bind fun v15 => if v15 ≤ 0 then ((oR M l0 9 58 0).bind fun v18 => bif zac M l0 9 58 then (b2 (f_X9_goOn l0 v18 M) fun r20 M21 => L_X9_drift_47 n l0 l1 (l2 + 1) M21) else none) else ((oI M l0 9 58 6).bind fun v24 => if v24 ≤ 0 then ((oR M l0 9 58 0).bind fun v27 => bif zac M l0 9 58 then (b2 (f_X9_goOn l0 v27 M) fun r29 M30 => L_X9_drift_47 n l0 l1 (l2 + 1) M30) else none) else (bif zac M l0 9 58 then ((f_X9_drawn l0 M).bind fun M33 => (oR M33 l0 9 58 0).bind fun v35 => bif zac M33 l0 9 58 then (b2 (f_X9_goOn l0 v35 M33) fun r37 M38 => L_X9_drift_47 n l0 l1 (l2 + 1) M38) else none) else none)))
def f_X9_drift (l0 : Nat) (l1 : Int32) (M : zM) : Option (Int32 × zM) := bif Nat.ble 1 l0 then ((f_X9_in (Int32.toInt64 l1) 1 60 M).bind fun r1 => if r1 = 0 then (some ((-1000000002), M)) else ((oI M l0 9 58 5).bind fun v4 => if v4 = 0 then (some ((-1000000003), M)) else ((oR M l0 9 58 0).bind fun v7 => (aI M v7 0).bind fun v9 => if v9 ≤ 9000 then (bif zac M l0 9 58 then ((f_X9_keepAct l0 M).bind fun M12 => (L_X9_drift_47 zN l0 l1 0 M12).bind fun M15 => (oR M15 l0 9 58 0).bind fun v16 => (aI M15 v16 2).bind fun v18 => some (v18, M15)) else none) else (some ((-1000000004), M))))) else none
theorem LX_X9_drift_47 {G : zG} {d : Nat} : ∀ (n : Nat) (l0 : Nat) (l1 : Int32) (l2 : Int32) (M : zM) (hl0 : l0 ≠ 0) (MX : zM) {res : Option Value × zM}, L_X9_drift_47 n l0 l1 l2 M = some MX → Ex G (d + 5) yX9_drift cX9_drift 4 (some .int) 85 [.ref l0, .null, .null, .null] [] MX res → Ex G (d + 5) yX9_drift cX9_drift 4 (some .int) 47 [.ref l0, .int l1, .int l2, .null] [] M res := by
  intro n
  induction n with
  | zero =>
    intro l0 l1 l2 M hl0 MX res h K
    simp [L_X9_drift_47] at h
  | succ n ih =>
    intro l0 l1 l2 M hl0 MX res h K
    simp only [L_X9_drift_47] at h
    refine x_iload_n (pc := 47) dX9_drift_47 rfl rfl ?_
    refine x_iload_n (pc := 48) dX9_drift_48 rfl rfl ?_
    refine x_icmp_ge (pc := 49) dX9_drift_49 (t := 85) rfl (fun c14 => ?_) (fun c14 => ?_)
    · rw [if_pos c14] at h
      obtain rfl := s1 h
      refine ex_weak (Ls2 := [.ref l0, .null, .null, .null]) ⟨Or.inr rfl, Or.inl rfl, Or.inl rfl, Or.inl rfl, trivial⟩ ?_
      exact K
    · rw [if_neg c14] at h
      refine x_aload_n (pc := 52) dX9_drift_52 rfl rfl hl0 ?_
      obtain ⟨v15, e16, h⟩ := ob h
      refine y_getI (pc := 53) dX9_drift_53 zf_X9_124 e16 (by decide) ?_
      refine x_if_le (pc := 56) dX9_drift_56 (t := 70) rfl (fun c17 => ?_) (fun c17 => ?_)
      · rw [if_pos c17] at h
        refine x_aload_n (pc := 70) dX9_drift_70 rfl rfl hl0 ?_
        refine x_aload_n (pc := 71) dX9_drift_71 rfl rfl hl0 ?_
        obtain ⟨v18, e19, h⟩ := ob h
        refine y_getR (pc := 72) dX9_drift_72 zf_X9_7 e19 ?_
        obtain ⟨g23, h⟩ := bt h
        obtain ⟨r20, M21, e22, h⟩ := ob2 h
        refine x_callV (av := [.ref v18]) (st := []) (pc := 75) dX9_drift_75 (E_X9_goOn (d := d) e22) rfl (Nat.le_of_ble_eq_true rfl) zc_X9_goOn rfl zm_X9_290 zi_X9_goOn zs_X9_goOn (zac_ok g23) (by decide) rfl rfl (zst_ok rfl (Nat.le_of_ble_eq_true rfl)) rfl ?_
        refine x_istore_n (pc := 78) dX9_drift_78 rfl (by decide) rfl ?_
        refine x_iinc (pc := 79) dX9_drift_79 rfl rfl (by decide) rfl ?_
        refine x_goto (pc := 82) dX9_drift_82 (t := 47) rfl ?_
        refine ex_weak (Ls2 := [.ref l0, .int l1, .int (l2 + 1), .null]) ⟨Or.inr rfl, Or.inr rfl, Or.inr rfl, Or.inl rfl, trivial⟩ ?_
        exact ih _ _ _ _ hl0  _ h K
      · rw [if_neg c17] at h
        refine x_aload_n (pc := 59) dX9_drift_59 rfl rfl hl0 ?_
        obtain ⟨v24, e25, h⟩ := ob h
        refine y_getI (pc := 60) dX9_drift_60 zf_X9_117 e25 (by decide) ?_
        refine x_if_le (pc := 63) dX9_drift_63 (t := 70) rfl (fun c26 => ?_) (fun c26 => ?_)
        · rw [if_pos c26] at h
          refine x_aload_n (pc := 70) dX9_drift_70 rfl rfl hl0 ?_
          refine x_aload_n (pc := 71) dX9_drift_71 rfl rfl hl0 ?_
          obtain ⟨v27, e28, h⟩ := ob h
          refine y_getR (pc := 72) dX9_drift_72 zf_X9_7 e28 ?_
          obtain ⟨g32, h⟩ := bt h
          obtain ⟨r29, M30, e31, h⟩ := ob2 h
          refine x_callV (av := [.ref v27]) (st := []) (pc := 75) dX9_drift_75 (E_X9_goOn (d := d) e31) rfl (Nat.le_of_ble_eq_true rfl) zc_X9_goOn rfl zm_X9_290 zi_X9_goOn zs_X9_goOn (zac_ok g32) (by decide) rfl rfl (zst_ok rfl (Nat.le_of_ble_eq_true rfl)) rfl ?_
          refine x_istore_n (pc := 78) dX9_drift_78 rfl (by decide) rfl ?_
          refine x_iinc (pc := 79) dX9_drift_79 rfl rfl (by decide) rfl ?_
          refine x_goto (pc := 82) dX9_drift_82 (t := 47) rfl ?_
          refine ex_weak (Ls2 := [.ref l0, .int l1, .int (l2 + 1), .null]) ⟨Or.inr rfl, Or.inr rfl, Or.inr rfl, Or.inl rfl, trivial⟩ ?_
          exact ih _ _ _ _ hl0  _ h K
        · rw [if_neg c26] at h
          refine x_aload_n (pc := 66) dX9_drift_66 rfl rfl hl0 ?_
          obtain ⟨g41, h⟩ := bt h
          obtain ⟨M33, e34, h⟩ := ob h
          refine x_callV (av := []) (st := []) (pc := 67) dX9_drift_67 (E_X9_drawn (d := d + 1) e34) rfl (Nat.le_of_ble_eq_true rfl) zc_X9_drawn rfl zm_X9_309 zi_X9_drawn zs_X9_drawn (zac_ok g41) (by decide) rfl rfl (zst_ok rfl (Nat.le_of_ble_eq_true rfl)) rfl ?_
          refine x_aload_n (pc := 70) dX9_drift_70 rfl rfl hl0 ?_
          refine x_aload_n (pc := 71) dX9_drift_71 rfl rfl hl0 ?_
          obtain ⟨v35, e36, h⟩ := ob h
          refine y_getR (pc := 72) dX9_drift_72 zf_X9_7 e36 ?_
          obtain ⟨g40, h⟩ := bt h
          obtain ⟨r37, M38, e39, h⟩ := ob2 h
          refine x_callV (av := [.ref v35]) (st := []) (pc := 75) dX9_drift_75 (E_X9_goOn (d := d) e39) rfl (Nat.le_of_ble_eq_true rfl) zc_X9_goOn rfl zm_X9_290 zi_X9_goOn zs_X9_goOn (zac_ok g40) (by decide) rfl rfl (zst_ok rfl (Nat.le_of_ble_eq_true rfl)) rfl ?_
          refine x_istore_n (pc := 78) dX9_drift_78 rfl (by decide) rfl ?_
          refine x_iinc (pc := 79) dX9_drift_79 rfl rfl (by decide) rfl ?_
          refine x_goto (pc := 82) dX9_drift_82 (t := 47) rfl ?_
          refine ex_weak (Ls2 := [.ref l0, .int l1, .int (l2 + 1), .null]) ⟨Or.inr rfl, Or.inr rfl, Or.inr rfl, Or.inl rfl, trivial⟩ ?_
          exact ih _ _ _ _ hl0  _ h K
theorem E_X9_drift {G : zG} {d : Nat} {l0 : Nat} {l1 : Int32} {M MR : zM} {r : Int32} (h : f_X9_drift l0 l1 M = some (r, MR)) : Ex G (d + 5) yX9_drift cX9_drift 4 (some .int) 0 (zent0 [.ref l0, .int l1] 4) [] M (some (.int r), MR) := by
  unfold f_X9_drift at h
  obtain ⟨zz0, h⟩ := bt h
  have hl0 := bz zz0
  show Ex _ _ _ _ _ _ 0 [.ref l0, .int l1, .null, .null] [] _ _
  refine x_iload_n (pc := 0) dX9_drift_0 rfl rfl ?_
  refine x_i2l (pc := 1) dX9_drift_1 ?_
  refine x_lconst (pc := 2) dX9_drift_2 (v := 1) rfl ?_
  refine x_ldc2 (pc := 3) dX9_drift_3 zk_X9_284 ?_
  obtain ⟨r1, e2, h⟩ := ob h
  refine x_callS (av := [.long (Int32.toInt64 l1), .long 1, .long 60]) (st := []) (pc := 6) dX9_drift_6 (E_X9_in (d := d + 4) e2) rfl (Nat.le_of_ble_eq_true rfl) zc_X9_in rfl zm_X9_120 zs_X9_in rfl (zst_ok rfl (Nat.le_of_ble_eq_true rfl)) rfl ?_
  refine x_if_ne (pc := 9) dX9_drift_9 (t := 15) rfl (fun c3 => ?_) (fun c3 => ?_)
  · rw [if_neg c3] at h
    refine x_aload_n (pc := 15) dX9_drift_15 rfl rfl hl0 ?_
    obtain ⟨v4, e5, h⟩ := ob h
    refine y_getI (pc := 16) dX9_drift_16 zf_X9_216 e5 (by decide) ?_
    refine x_if_ne (pc := 19) dX9_drift_19 (t := 26) rfl (fun c6 => ?_) (fun c6 => ?_)
    · rw [if_neg c6] at h
      refine x_aload_n (pc := 26) dX9_drift_26 rfl rfl hl0 ?_
      obtain ⟨v7, e8, h⟩ := ob h
      refine y_getR (pc := 27) dX9_drift_27 zf_X9_7 e8 ?_
      refine x_iconst (pc := 30) dX9_drift_30 (v := 0) rfl ?_
      obtain ⟨v9, e10, h⟩ := ob h
      refine y_iald (pc := 31) dX9_drift_31 e10 ?_
      refine x_sipush (pc := 32) dX9_drift_32 (v := 9000) (by decide) ?_
      refine x_icmp_le (pc := 35) dX9_drift_35 (t := 41) rfl (fun c11 => ?_) (fun c11 => ?_)
      · rw [if_pos c11] at h
        refine x_aload_n (pc := 41) dX9_drift_41 rfl rfl hl0 ?_
        obtain ⟨g20, h⟩ := bt h
        obtain ⟨M12, e13, h⟩ := ob h
        refine x_callV (av := []) (st := []) (pc := 42) dX9_drift_42 (E_X9_keepAct (d := d + 4) e13) rfl (Nat.le_of_ble_eq_true rfl) zc_X9_keepAct rfl zm_X9_287 zi_X9_keepAct zs_X9_keepAct (zac_ok g20) (by decide) rfl rfl (zst_ok rfl (Nat.le_of_ble_eq_true rfl)) rfl ?_
        refine x_iconst (pc := 45) dX9_drift_45 (v := 0) rfl ?_
        refine x_istore_n (pc := 46) dX9_drift_46 rfl (by decide) rfl ?_
        obtain ⟨M15, e14, h⟩ := ob h
        refine ex_weak (Ls2 := [.ref l0, .int l1, .int 0, .null]) ⟨Or.inr rfl, Or.inr rfl, Or.inr rfl, Or.inl rfl, trivial⟩ ?_
        refine LX_X9_drift_47 zN _ _ _ _ hl0 _ e14 ?_
        refine x_aload_n (pc := 85) dX9_drift_85 rfl rfl hl0 ?_
        obtain ⟨v16, e17, h⟩ := ob h
        refine y_getR (pc := 86) dX9_drift_86 zf_X9_7 e17 ?_
        refine x_iconst (pc := 89) dX9_drift_89 (v := 2) rfl ?_
        obtain ⟨v18, e19, h⟩ := ob h
        refine y_iald (pc := 90) dX9_drift_90 e19 ?_
        obtain ⟨rfl, rfl⟩ := s2 h
        exact y_retI (pc := 91) dX9_drift_91 rfl
      · rw [if_neg c11] at h
        refine x_ldc (pc := 38) dX9_drift_38 zk_X9_137 ?_
        obtain ⟨rfl, rfl⟩ := s2 h
        exact y_retI (pc := 40) dX9_drift_40 rfl
    · rw [if_pos c6] at h
      refine x_ldcw (pc := 22) dX9_drift_22 zk_X9_286 ?_
      obtain ⟨rfl, rfl⟩ := s2 h
      exact y_retI (pc := 25) dX9_drift_25 rfl
  · rw [if_pos c3] at h
    refine x_ldc (pc := 12) dX9_drift_12 zk_X9_133 ?_
    obtain ⟨rfl, rfl⟩ := s2 h
    exact y_retI (pc := 14) dX9_drift_14 rfl
def L_X9_undo_23 : Nat → Nat → Int32 → zM → Option (zM)
  | 0, _, _, _ => none
  | n + 1, l0, l1, M => if 69 ≤ l1 then (some M) else ((oR M l0 9 58 0).bind fun v9 => (oR M l0 9 58 2).bind fun v11 => (oI M l0 9 58 3).bind fun v13 => (aI M v11 ((69 * v13) + l1)).bind fun v15 => (sI M v9 l1 v15).bind fun M17 => L_X9_undo_23 n l0 (l1 + 1) M17)
def f_X9_undo (l0 : Nat) (M : zM) : Option (Int32 × zM) := bif Nat.ble 1 l0 then ((oI M l0 9 58 3).bind fun v1 => if v1 = 0 then (some ((-1000000003), M)) else ((oI M l0 9 58 3).bind fun v4 => (pI M l0 9 58 3 (v4 - 1)).bind fun M6 => (L_X9_undo_23 zN l0 0 M6).bind fun M9 => (oI M9 l0 9 58 3).bind fun v10 => some (v10, M9))) else none
theorem LX_X9_undo_23 {G : zG} {d : Nat} : ∀ (n : Nat) (l0 : Nat) (l1 : Int32) (M : zM) (hl0 : l0 ≠ 0) (MX : zM) {res : Option Value × zM}, L_X9_undo_23 n l0 l1 M = some MX → Ex G d yX9_undo cX9_undo 2 (some .int) 55 [.ref l0, .null] [] MX res → Ex G d yX9_undo cX9_undo 2 (some .int) 23 [.ref l0, .int l1] [] M res := by
  intro n
  induction n with
  | zero =>
    intro l0 l1 M hl0 MX res h K
    simp [L_X9_undo_23] at h
  | succ n ih =>
    intro l0 l1 M hl0 MX res h K
    simp only [L_X9_undo_23] at h
    refine x_iload_n (pc := 23) dX9_undo_23 rfl rfl ?_
    refine x_bipush (pc := 24) dX9_undo_24 (v := 69) (by decide) ?_
    refine x_icmp_ge (pc := 26) dX9_undo_26 (t := 55) rfl (fun c8 => ?_) (fun c8 => ?_)
    · rw [if_pos c8] at h
      obtain rfl := s1 h
      refine ex_weak (Ls2 := [.ref l0, .null]) ⟨Or.inr rfl, Or.inl rfl, trivial⟩ ?_
      exact K
    · rw [if_neg c8] at h
      refine x_aload_n (pc := 29) dX9_undo_29 rfl rfl hl0 ?_
      obtain ⟨v9, e10, h⟩ := ob h
      refine y_getR (pc := 30) dX9_undo_30 zf_X9_7 e10 ?_
      refine x_iload_n (pc := 33) dX9_undo_33 rfl rfl ?_
      refine x_aload_n (pc := 34) dX9_undo_34 rfl rfl hl0 ?_
      obtain ⟨v11, e12, h⟩ := ob h
      refine y_getR (pc := 35) dX9_undo_35 zf_X9_16 e12 ?_
      refine x_bipush (pc := 38) dX9_undo_38 (v := 69) (by decide) ?_
      refine x_aload_n (pc := 40) dX9_undo_40 rfl rfl hl0 ?_
      obtain ⟨v13, e14, h⟩ := ob h
      refine y_getI (pc := 41) dX9_undo_41 zf_X9_219 e14 (by decide) ?_
      refine x_imul (pc := 44) dX9_undo_44 ?_
      refine x_iload_n (pc := 45) dX9_undo_45 rfl rfl ?_
      refine x_iadd (pc := 46) dX9_undo_46 ?_
      obtain ⟨v15, e16, h⟩ := ob h
      refine y_iald (pc := 47) dX9_undo_47 e16 ?_
      obtain ⟨M17, e18, h⟩ := ob h
      refine y_iast (pc := 48) dX9_undo_48 e18 ?_
      refine x_iinc (pc := 49) dX9_undo_49 rfl rfl (by decide) rfl ?_
      refine x_goto (pc := 52) dX9_undo_52 (t := 23) rfl ?_
      refine ex_weak (Ls2 := [.ref l0, .int (l1 + 1)]) ⟨Or.inr rfl, Or.inr rfl, trivial⟩ ?_
      exact ih _ _ _ hl0  _ h K
theorem E_X9_undo {G : zG} {d : Nat} {l0 : Nat} {M MR : zM} {r : Int32} (h : f_X9_undo l0 M = some (r, MR)) : Ex G d yX9_undo cX9_undo 2 (some .int) 0 (zent0 [.ref l0] 2) [] M (some (.int r), MR) := by
  unfold f_X9_undo at h
  obtain ⟨zz0, h⟩ := bt h
  have hl0 := bz zz0
  show Ex _ _ _ _ _ _ 0 [.ref l0, .null] [] _ _
  refine x_aload_n (pc := 0) dX9_undo_0 rfl rfl hl0 ?_
  obtain ⟨v1, e2, h⟩ := ob h
  refine y_getI (pc := 1) dX9_undo_1 zf_X9_219 e2 (by decide) ?_
  refine x_if_ne (pc := 4) dX9_undo_4 (t := 11) rfl (fun c3 => ?_) (fun c3 => ?_)
  · rw [if_neg c3] at h
    refine x_aload_n (pc := 11) dX9_undo_11 rfl rfl hl0 ?_
    refine x_dup (pc := 12) dX9_undo_12 rv_cr ?_
    obtain ⟨v4, e5, h⟩ := ob h
    refine y_getI (pc := 13) dX9_undo_13 zf_X9_219 e5 (by decide) ?_
    refine x_iconst (pc := 16) dX9_undo_16 (v := 1) rfl ?_
    refine x_isub (pc := 17) dX9_undo_17 ?_
    obtain ⟨M6, e7, h⟩ := ob h
    refine y_putI (pc := 18) dX9_undo_18 zf_X9_219 e7 ?_
    refine x_iconst (pc := 21) dX9_undo_21 (v := 0) rfl ?_
    refine x_istore_n (pc := 22) dX9_undo_22 rfl (by decide) rfl ?_
    obtain ⟨M9, e8, h⟩ := ob h
    refine ex_weak (Ls2 := [.ref l0, .int 0]) ⟨Or.inr rfl, Or.inr rfl, trivial⟩ ?_
    refine LX_X9_undo_23 zN _ _ _ hl0 _ e8 ?_
    refine x_aload_n (pc := 55) dX9_undo_55 rfl rfl hl0 ?_
    obtain ⟨v10, e11, h⟩ := ob h
    refine y_getI (pc := 56) dX9_undo_56 zf_X9_219 e11 (by decide) ?_
    obtain ⟨rfl, rfl⟩ := s2 h
    exact y_retI (pc := 59) dX9_undo_59 rfl
  · rw [if_pos c3] at h
    refine x_ldcw (pc := 7) dX9_undo_7 zk_X9_286 ?_
    obtain ⟨rfl, rfl⟩ := s2 h
    exact y_retI (pc := 10) dX9_undo_10 rfl
def L_X9_layTried_2 : Nat → Nat → Int32 → zM → Option (zM)
  | 0, _, _, _ => none
  | n + 1, l0, l1, M => if 69 ≤ l1 then (some M) else ((oR M l0 9 58 1).bind fun v2 => (oR M l0 9 58 0).bind fun v4 => (aI M v4 l1).bind fun v6 => (sI M v2 l1 v6).bind fun M8 => L_X9_layTried_2 n l0 (l1 + 1) M8)
def f_X9_layTried (l0 : Nat) (M : zM) : Option (zM) := bif Nat.ble 1 l0 then ((L_X9_layTried_2 zN l0 0 M).bind fun M2 => some M2) else none
theorem LX_X9_layTried_2 {G : zG} {d : Nat} : ∀ (n : Nat) (l0 : Nat) (l1 : Int32) (M : zM) (hl0 : l0 ≠ 0) (MX : zM) {res : Option Value × zM}, L_X9_layTried_2 n l0 l1 M = some MX → Ex G d yX9_layTried cX9_layTried 2 none 26 [.null, .null] [] MX res → Ex G d yX9_layTried cX9_layTried 2 none 2 [.ref l0, .int l1] [] M res := by
  intro n
  induction n with
  | zero =>
    intro l0 l1 M hl0 MX res h K
    simp [L_X9_layTried_2] at h
  | succ n ih =>
    intro l0 l1 M hl0 MX res h K
    simp only [L_X9_layTried_2] at h
    refine x_iload_n (pc := 2) dX9_layTried_2 rfl rfl ?_
    refine x_bipush (pc := 3) dX9_layTried_3 (v := 69) (by decide) ?_
    refine x_icmp_ge (pc := 5) dX9_layTried_5 (t := 26) rfl (fun c1 => ?_) (fun c1 => ?_)
    · rw [if_pos c1] at h
      obtain rfl := s1 h
      refine ex_weak (Ls2 := [.null, .null]) ⟨Or.inl rfl, Or.inl rfl, trivial⟩ ?_
      exact K
    · rw [if_neg c1] at h
      refine x_aload_n (pc := 8) dX9_layTried_8 rfl rfl hl0 ?_
      obtain ⟨v2, e3, h⟩ := ob h
      refine y_getR (pc := 9) dX9_layTried_9 zf_X9_13 e3 ?_
      refine x_iload_n (pc := 12) dX9_layTried_12 rfl rfl ?_
      refine x_aload_n (pc := 13) dX9_layTried_13 rfl rfl hl0 ?_
      obtain ⟨v4, e5, h⟩ := ob h
      refine y_getR (pc := 14) dX9_layTried_14 zf_X9_7 e5 ?_
      refine x_iload_n (pc := 17) dX9_layTried_17 rfl rfl ?_
      obtain ⟨v6, e7, h⟩ := ob h
      refine y_iald (pc := 18) dX9_layTried_18 e7 ?_
      obtain ⟨M8, e9, h⟩ := ob h
      refine y_iast (pc := 19) dX9_layTried_19 e9 ?_
      refine x_iinc (pc := 20) dX9_layTried_20 rfl rfl (by decide) rfl ?_
      refine x_goto (pc := 23) dX9_layTried_23 (t := 2) rfl ?_
      refine ex_weak (Ls2 := [.ref l0, .int (l1 + 1)]) ⟨Or.inr rfl, Or.inr rfl, trivial⟩ ?_
      exact ih _ _ _ hl0  _ h K
theorem E_X9_layTried {G : zG} {d : Nat} {l0 : Nat} {M MR : zM} (h : f_X9_layTried l0 M = some MR) : Ex G d yX9_layTried cX9_layTried 2 none 0 (zent0 [.ref l0] 2) [] M (none, MR) := by
  unfold f_X9_layTried at h
  obtain ⟨zz0, h⟩ := bt h
  have hl0 := bz zz0
  show Ex _ _ _ _ _ _ 0 [.ref l0, .null] [] _ _
  refine x_iconst (pc := 0) dX9_layTried_0 (v := 0) rfl ?_
  refine x_istore_n (pc := 1) dX9_layTried_1 rfl (by decide) rfl ?_
  obtain ⟨M2, e1, h⟩ := ob h
  refine ex_weak (Ls2 := [.ref l0, .int 0]) ⟨Or.inr rfl, Or.inr rfl, trivial⟩ ?_
  refine LX_X9_layTried_2 zN _ _ _ hl0 _ e1 ?_
  obtain rfl := s1 h
  exact x_vret (pc := 26) dX9_layTried_26 rfl
def L_X9_costOfWay_12 : Nat → Nat → Int32 → Int32 → Int32 → zM → Option (Int32)
  | 0, _, _, _, _, _ => none
  | n + 1, l0, l1, l2, l3, M => if 8 ≤ l3 then (some l2) else ((f_X9_has l1 l3 M).bind fun r3 => if r3 = 0 then (L_X9_costOfWay_12 n l0 l1 l2 (l3 + 1) M) else (if l2 = (-1) then (L_X9_costOfWay_12 n l0 l1 l2 (l3 + 1) M) else ((oR M l0 9 58 34).bind fun v7 => (aI M v7 l3).bind fun v9 => if v9 = (-1) then (L_X9_costOfWay_12 n l0 l1 (-1) (l3 + 1) M) else ((oR M l0 9 58 34).bind fun v12 => (aI M v12 l3).bind fun v14 => L_X9_costOfWay_12 n l0 l1 (l2 + v14) (l3 + 1) M))))
def f_X9_costOfWay (l0 : Nat) (l1 : Int32) (M : zM) : Option (Int32) := bif Nat.ble 1 l0 then (if l1 = 0 then ((L_X9_costOfWay_12 zN l0 l1 (-1) 0 M).bind fun v3 => some v3) else ((L_X9_costOfWay_12 zN l0 l1 0 0 M).bind fun v5 => some v5)) else none
theorem LX_X9_costOfWay_12 {G : zG} {d : Nat} : ∀ (n : Nat) (l0 : Nat) (l1 : Int32) (l2 : Int32) (l3 : Int32) (M : zM) (hl0 : l0 ≠ 0) (o2 : Int32) {res : Option Value × zM}, L_X9_costOfWay_12 n l0 l1 l2 l3 M = some o2 → Ex G (d + 1) yX9_costOfWay cX9_costOfWay 4 (some .int) 60 [.null, .null, .int o2, .null] [] M res → Ex G (d + 1) yX9_costOfWay cX9_costOfWay 4 (some .int) 12 [.ref l0, .int l1, .int l2, .int l3] [] M res := by
  intro n
  induction n with
  | zero =>
    intro l0 l1 l2 l3 M hl0 o2 res h K
    simp [L_X9_costOfWay_12] at h
  | succ n ih =>
    intro l0 l1 l2 l3 M hl0 o2 res h K
    simp only [L_X9_costOfWay_12] at h
    refine x_iload_n (pc := 12) dX9_costOfWay_12 rfl rfl ?_
    refine x_bipush (pc := 13) dX9_costOfWay_13 (v := 8) (by decide) ?_
    refine x_icmp_ge (pc := 15) dX9_costOfWay_15 (t := 60) rfl (fun c2 => ?_) (fun c2 => ?_)
    · rw [if_pos c2] at h
      obtain rfl := s1 h
      refine ex_weak (Ls2 := [.null, .null, .int l2, .null]) ⟨Or.inl rfl, Or.inl rfl, Or.inr rfl, Or.inl rfl, trivial⟩ ?_
      exact K
    · rw [if_neg c2] at h
      refine x_iload_n (pc := 18) dX9_costOfWay_18 rfl rfl ?_
      refine x_iload_n (pc := 19) dX9_costOfWay_19 rfl rfl ?_
      obtain ⟨r3, e4, h⟩ := ob h
      refine x_callS (av := [.int l1, .int l3]) (st := []) (pc := 20) dX9_costOfWay_20 (E_X9_has (d := d) e4) rfl (Nat.le_of_ble_eq_true rfl) zc_X9_has rfl zm_X9_178 zs_X9_has rfl (zst_ok rfl (Nat.le_of_ble_eq_true rfl)) rfl ?_
      refine x_if_eq (pc := 23) dX9_costOfWay_23 (t := 54) rfl (fun c5 => ?_) (fun c5 => ?_)
      · rw [if_pos c5] at h
        refine x_iinc (pc := 54) dX9_costOfWay_54 rfl rfl (by decide) rfl ?_
        refine x_goto (pc := 57) dX9_costOfWay_57 (t := 12) rfl ?_
        refine ex_weak (Ls2 := [.ref l0, .int l1, .int l2, .int (l3 + 1)]) ⟨Or.inr rfl, Or.inr rfl, Or.inr rfl, Or.inr rfl, trivial⟩ ?_
        exact ih _ _ _ _ _ hl0 _ h K
      · rw [if_neg c5] at h
        refine x_iload_n (pc := 26) dX9_costOfWay_26 rfl rfl ?_
        refine x_iconst (pc := 27) dX9_costOfWay_27 (v := (-1)) rfl ?_
        refine x_icmp_eq (pc := 28) dX9_costOfWay_28 (t := 54) rfl (fun c6 => ?_) (fun c6 => ?_)
        · rw [if_pos c6] at h
          refine x_iinc (pc := 54) dX9_costOfWay_54 rfl rfl (by decide) rfl ?_
          refine x_goto (pc := 57) dX9_costOfWay_57 (t := 12) rfl ?_
          refine ex_weak (Ls2 := [.ref l0, .int l1, .int l2, .int (l3 + 1)]) ⟨Or.inr rfl, Or.inr rfl, Or.inr rfl, Or.inr rfl, trivial⟩ ?_
          exact ih _ _ _ _ _ hl0 _ h K
        · rw [if_neg c6] at h
          refine x_aload_n (pc := 31) dX9_costOfWay_31 rfl rfl hl0 ?_
          obtain ⟨v7, e8, h⟩ := ob h
          refine y_getR (pc := 32) dX9_costOfWay_32 zf_X9_66 e8 ?_
          refine x_iload_n (pc := 35) dX9_costOfWay_35 rfl rfl ?_
          obtain ⟨v9, e10, h⟩ := ob h
          refine y_iald (pc := 36) dX9_costOfWay_36 e10 ?_
          refine x_iconst (pc := 37) dX9_costOfWay_37 (v := (-1)) rfl ?_
          refine x_icmp_ne (pc := 38) dX9_costOfWay_38 (t := 45) rfl (fun c11 => ?_) (fun c11 => ?_)
          · rw [if_neg c11] at h
            refine x_iload_n (pc := 45) dX9_costOfWay_45 rfl rfl ?_
            refine x_aload_n (pc := 46) dX9_costOfWay_46 rfl rfl hl0 ?_
            obtain ⟨v12, e13, h⟩ := ob h
            refine y_getR (pc := 47) dX9_costOfWay_47 zf_X9_66 e13 ?_
            refine x_iload_n (pc := 50) dX9_costOfWay_50 rfl rfl ?_
            obtain ⟨v14, e15, h⟩ := ob h
            refine y_iald (pc := 51) dX9_costOfWay_51 e15 ?_
            refine x_iadd (pc := 52) dX9_costOfWay_52 ?_
            refine x_istore_n (pc := 53) dX9_costOfWay_53 rfl (by decide) rfl ?_
            refine x_iinc (pc := 54) dX9_costOfWay_54 rfl rfl (by decide) rfl ?_
            refine x_goto (pc := 57) dX9_costOfWay_57 (t := 12) rfl ?_
            refine ex_weak (Ls2 := [.ref l0, .int l1, .int (l2 + v14), .int (l3 + 1)]) ⟨Or.inr rfl, Or.inr rfl, Or.inr rfl, Or.inr rfl, trivial⟩ ?_
            exact ih _ _ _ _ _ hl0 _ h K
          · rw [if_pos c11] at h
            refine x_iconst (pc := 41) dX9_costOfWay_41 (v := (-1)) rfl ?_
            refine x_goto (pc := 42) dX9_costOfWay_42 (t := 53) rfl ?_
            refine x_istore_n (pc := 53) dX9_costOfWay_53 rfl (by decide) rfl ?_
            refine x_iinc (pc := 54) dX9_costOfWay_54 rfl rfl (by decide) rfl ?_
            refine x_goto (pc := 57) dX9_costOfWay_57 (t := 12) rfl ?_
            refine ex_weak (Ls2 := [.ref l0, .int l1, .int (-1), .int (l3 + 1)]) ⟨Or.inr rfl, Or.inr rfl, Or.inr rfl, Or.inr rfl, trivial⟩ ?_
            exact ih _ _ _ _ _ hl0 _ h K
theorem E_X9_costOfWay {G : zG} {d : Nat} {l0 : Nat} {l1 : Int32} {M : zM} {r : Int32} (h : f_X9_costOfWay l0 l1 M = some r) : Ex G (d + 1) yX9_costOfWay cX9_costOfWay 4 (some .int) 0 (zent0 [.ref l0, .int l1] 4) [] M (some (.int r), M) := by
  unfold f_X9_costOfWay at h
  obtain ⟨zz0, h⟩ := bt h
  have hl0 := bz zz0
  show Ex _ _ _ _ _ _ 0 [.ref l0, .int l1, .null, .null] [] _ _
  refine x_iload_n (pc := 0) dX9_costOfWay_0 rfl rfl ?_
  refine x_if_ne (pc := 1) dX9_costOfWay_1 (t := 8) rfl (fun c1 => ?_) (fun c1 => ?_)
  · rw [if_neg c1] at h
    refine x_iconst (pc := 8) dX9_costOfWay_8 (v := 0) rfl ?_
    refine x_istore_n (pc := 9) dX9_costOfWay_9 rfl (by decide) rfl ?_
    refine x_iconst (pc := 10) dX9_costOfWay_10 (v := 0) rfl ?_
    refine x_istore_n (pc := 11) dX9_costOfWay_11 rfl (by decide) rfl ?_
    obtain ⟨v5, e4, h⟩ := ob h
    refine ex_weak (Ls2 := [.ref l0, .int l1, .int 0, .int 0]) ⟨Or.inr rfl, Or.inr rfl, Or.inr rfl, Or.inr rfl, trivial⟩ ?_
    refine LX_X9_costOfWay_12 zN _ _ _ _ _ hl0 _ e4 ?_
    refine x_iload_n (pc := 60) dX9_costOfWay_60 rfl rfl ?_
    obtain rfl := s1 h
    exact y_retI (pc := 61) dX9_costOfWay_61 rfl
  · rw [if_pos c1] at h
    refine x_iconst (pc := 4) dX9_costOfWay_4 (v := (-1)) rfl ?_
    refine x_goto (pc := 5) dX9_costOfWay_5 (t := 9) rfl ?_
    refine x_istore_n (pc := 9) dX9_costOfWay_9 rfl (by decide) rfl ?_
    refine x_iconst (pc := 10) dX9_costOfWay_10 (v := 0) rfl ?_
    refine x_istore_n (pc := 11) dX9_costOfWay_11 rfl (by decide) rfl ?_
    obtain ⟨v3, e2, h⟩ := ob h
    refine ex_weak (Ls2 := [.ref l0, .int l1, .int (-1), .int 0]) ⟨Or.inr rfl, Or.inr rfl, Or.inr rfl, Or.inr rfl, trivial⟩ ?_
    refine LX_X9_costOfWay_12 zN _ _ _ _ _ hl0 _ e2 ?_
    refine x_iload_n (pc := 60) dX9_costOfWay_60 rfl rfl ?_
    obtain rfl := s1 h
    exact y_retI (pc := 61) dX9_costOfWay_61 rfl
def f_X9_costBy (l0 : Nat) (l1 : Int32) (l2 : Int32) (l3 : Int32) (M : zM) : Option (Int32) := bif Nat.ble 1 l0 then (if l3 = 0 then ((oR M l0 9 58 0).bind fun v2 => (f_X9_canSay v2 l1 l2 M).bind fun r4 => if r4 = 0 then (some (-1)) else ((oR M l0 9 58 9).bind fun v7 => (aI M v7 l2).bind fun v9 => some v9)) else (if l3 = 1 then ((oR M l0 9 58 12).bind fun v12 => (aZ M v12 l2).bind fun v14 => if v14 = 0 then (some (-1)) else (some 0)) else ((oR M l0 9 58 11).bind fun v17 => (aI M v17 (((2 * l2) + l3) - 2)).bind fun v19 => bif zac M l0 9 58 then ((f_X9_costOfWay l0 v19 M).bind fun r21 => some r21) else none))) else none
theorem E_X9_costBy {G : zG} {d : Nat} {l0 : Nat} {l1 : Int32} {l2 : Int32} {l3 : Int32} {M : zM} {r : Int32} (h : f_X9_costBy l0 l1 l2 l3 M = some r) : Ex G (d + 2) yX9_costBy cX9_costBy 4 (some .int) 0 (zent0 [.ref l0, .int l1, .int l2, .int l3] 4) [] M (some (.int r), M) := by
  unfold f_X9_costBy at h
  obtain ⟨zz0, h⟩ := bt h
  have hl0 := bz zz0
  show Ex _ _ _ _ _ _ 0 [.ref l0, .int l1, .int l2, .int l3] [] _ _
  refine x_iload_n (pc := 0) dX9_costBy_0 rfl rfl ?_
  refine x_if_ne (pc := 1) dX9_costBy_1 (t := 29) rfl (fun c1 => ?_) (fun c1 => ?_)
  · rw [if_neg c1] at h
    refine x_iload_n (pc := 29) dX9_costBy_29 rfl rfl ?_
    refine x_iconst (pc := 30) dX9_costBy_30 (v := 1) rfl ?_
    refine x_icmp_ne (pc := 31) dX9_costBy_31 (t := 51) rfl (fun c11 => ?_) (fun c11 => ?_)
    · rw [if_neg c11] at h
      refine x_aload_n (pc := 51) dX9_costBy_51 rfl rfl hl0 ?_
      refine x_aload_n (pc := 52) dX9_costBy_52 rfl rfl hl0 ?_
      obtain ⟨v17, e18, h⟩ := ob h
      refine y_getR (pc := 53) dX9_costBy_53 zf_X9_25 e18 ?_
      refine x_iconst (pc := 56) dX9_costBy_56 (v := 2) rfl ?_
      refine x_iload_n (pc := 57) dX9_costBy_57 rfl rfl ?_
      refine x_imul (pc := 58) dX9_costBy_58 ?_
      refine x_iload_n (pc := 59) dX9_costBy_59 rfl rfl ?_
      refine x_iadd (pc := 60) dX9_costBy_60 ?_
      refine x_iconst (pc := 61) dX9_costBy_61 (v := 2) rfl ?_
      refine x_isub (pc := 62) dX9_costBy_62 ?_
      obtain ⟨v19, e20, h⟩ := ob h
      refine y_iald (pc := 63) dX9_costBy_63 e20 ?_
      obtain ⟨g23, h⟩ := bt h
      obtain ⟨r21, e22, h⟩ := ob h
      refine x_callV (av := [.int v19]) (st := []) (pc := 64) dX9_costBy_64 (E_X9_costOfWay (d := d) e22) rfl (Nat.le_of_ble_eq_true rfl) zc_X9_costOfWay rfl zm_X9_312 zi_X9_costOfWay zs_X9_costOfWay (zac_ok g23) (by decide) rfl rfl (zst_ok rfl (Nat.le_of_ble_eq_true rfl)) rfl ?_
      obtain rfl := s1 h
      exact y_retI (pc := 67) dX9_costBy_67 rfl
    · rw [if_pos c11] at h
      refine x_aload_n (pc := 34) dX9_costBy_34 rfl rfl hl0 ?_
      obtain ⟨v12, e13, h⟩ := ob h
      refine y_getR (pc := 35) dX9_costBy_35 zf_X9_28 e13 ?_
      refine x_iload_n (pc := 38) dX9_costBy_38 rfl rfl ?_
      obtain ⟨v14, e15, h⟩ := ob h
      refine y_zald (pc := 39) dX9_costBy_39 e15 ?_
      refine x_if_eq (pc := 40) dX9_costBy_40 (t := 47) rfl (fun c16 => ?_) (fun c16 => ?_)
      · rw [if_pos c16] at h
        refine x_iconst (pc := 47) dX9_costBy_47 (v := (-1)) rfl ?_
        refine x_goto (pc := 48) dX9_costBy_48 (t := 67) rfl ?_
        obtain rfl := s1 h
        exact y_retI (pc := 67) dX9_costBy_67 rfl
      · rw [if_neg c16] at h
        refine x_iconst (pc := 43) dX9_costBy_43 (v := 0) rfl ?_
        refine x_goto (pc := 44) dX9_costBy_44 (t := 67) rfl ?_
        obtain rfl := s1 h
        exact y_retI (pc := 67) dX9_costBy_67 rfl
  · rw [if_pos c1] at h
    refine x_aload_n (pc := 4) dX9_costBy_4 rfl rfl hl0 ?_
    obtain ⟨v2, e3, h⟩ := ob h
    refine y_getR (pc := 5) dX9_costBy_5 zf_X9_7 e3 ?_
    refine x_iload_n (pc := 8) dX9_costBy_8 rfl rfl ?_
    refine x_iload_n (pc := 9) dX9_costBy_9 rfl rfl ?_
    obtain ⟨r4, e5, h⟩ := ob h
    refine x_callS (av := [.ref v2, .int l1, .int l2]) (st := []) (pc := 10) dX9_costBy_10 (E_X9_canSay (d := d + 1) e5) rfl (Nat.le_of_ble_eq_true rfl) zc_X9_canSay rfl zm_X9_257 zs_X9_canSay rfl (zst_ok rfl (Nat.le_of_ble_eq_true rfl)) rfl ?_
    refine x_if_eq (pc := 13) dX9_costBy_13 (t := 25) rfl (fun c6 => ?_) (fun c6 => ?_)
    · rw [if_pos c6] at h
      refine x_iconst (pc := 25) dX9_costBy_25 (v := (-1)) rfl ?_
      refine x_goto (pc := 26) dX9_costBy_26 (t := 67) rfl ?_
      obtain rfl := s1 h
      exact y_retI (pc := 67) dX9_costBy_67 rfl
    · rw [if_neg c6] at h
      refine x_aload_n (pc := 16) dX9_costBy_16 rfl rfl hl0 ?_
      obtain ⟨v7, e8, h⟩ := ob h
      refine y_getR (pc := 17) dX9_costBy_17 zf_X9_19 e8 ?_
      refine x_iload_n (pc := 20) dX9_costBy_20 rfl rfl ?_
      obtain ⟨v9, e10, h⟩ := ob h
      refine y_iald (pc := 21) dX9_costBy_21 e10 ?_
      refine x_goto (pc := 22) dX9_costBy_22 (t := 67) rfl ?_
      obtain rfl := s1 h
      exact y_retI (pc := 67) dX9_costBy_67 rfl
def L_X9_cheapest_35 : Nat → Nat → Int32 → Int32 → Int32 → Int32 → zM → Option (zM)
  | 0, _, _, _, _, _, _ => none
  | n + 1, l0, l1, l2, l3, l4, M => if 8 ≤ l4 then (some M) else ((oR M l0 9 58 34).bind fun v11 => (sI M v11 l4 (-1)).bind fun M13 => L_X9_cheapest_35 n l0 l1 l2 l3 (l4 + 1) M13)
def L_X9_cheapest_81 : Nat → Nat → Int32 → Int32 → Int32 → Int32 → Int32 → Int32 → zM → Option (zM)
  | 0, _, _, _, _, _, _, _, _ => none
  | n + 1, l0, l1, l2, l3, l4, l5, l6, M => if 4 ≤ l6 then (some M) else (bif zac M l0 9 58 then ((f_X9_costBy l0 l1 l5 l6 M).bind fun r17 => (oR M l0 9 58 34).bind fun v19 => if r17 = (-1) then ((oR M l0 9 58 34).bind fun v22 => (aI M v22 l5).bind fun v24 => (sI M v19 l5 v24).bind fun M26 => L_X9_cheapest_81 n l0 l1 l2 l3 l4 l5 (l6 + 1) M26) else ((oR M l0 9 58 34).bind fun v28 => (aI M v28 l5).bind fun v30 => if v30 = (-1) then ((sI M v19 l5 r17).bind fun M33 => L_X9_cheapest_81 n l0 l1 l2 l3 l4 l5 (l6 + 1) M33) else ((oR M l0 9 58 34).bind fun v35 => (aI M v35 l5).bind fun v37 => if v37 ≤ r17 then ((oR M l0 9 58 34).bind fun v40 => (aI M v40 l5).bind fun v42 => (sI M v19 l5 v42).bind fun M44 => L_X9_cheapest_81 n l0 l1 l2 l3 l4 l5 (l6 + 1) M44) else ((sI M v19 l5 r17).bind fun M46 => L_X9_cheapest_81 n l0 l1 l2 l3 l4 l5 (l6 + 1) M46)))) else none)
def L_X9_cheapest_69 : Nat → Nat → Int32 → Int32 → Int32 → Int32 → Int32 → zM → Option (zM)
  | 0, _, _, _, _, _, _, _ => none
  | n + 1, l0, l1, l2, l3, l4, l5, M => (oI M l0 9 58 6).bind fun v13 => if v13 ≤ l5 then (some M) else ((L_X9_cheapest_81 zN l0 l1 l2 l3 l4 l5 0 M).bind fun M17 => L_X9_cheapest_69 n l0 l1 l2 l3 l4 (l5 + 1) M17)
def L_X9_cheapest_59 : Nat → Nat → Int32 → Int32 → Int32 → Int32 → zM → Option (zM)
  | 0, _, _, _, _, _, _ => none
  | n + 1, l0, l1, l2, l3, l4, M => if 10 ≤ l4 then (some M) else ((L_X9_cheapest_69 zN l0 l1 l2 l3 l4 0 M).bind fun M14 => L_X9_cheapest_59 n l0 l1 l2 l3 (l4 + 1) M14)
def L_X9_cheapest_170 : Nat → Nat → Int32 → Int32 → Int32 → Int32 → Int32 → zM → Option (Int32)
  | 0, _, _, _, _, _, _, _ => none
  | n + 1, l0, l1, l2, l3, l4, l5, M => if l5 < 0 then (some l4) else ((oR M l0 9 58 34).bind fun v15 => (aI M v15 l2).bind fun v17 => if v17 = (-1) then (L_X9_cheapest_170 n l0 l1 l2 l3 l4 (l5 + (-1)) M) else (bif zac M l0 9 58 then ((f_X9_costBy l0 l1 l2 l5 M).bind fun r20 => (oR M l0 9 58 34).bind fun v22 => (aI M v22 l2).bind fun v24 => if r20 = v24 then (L_X9_cheapest_170 n l0 l1 l2 l3 l5 (l5 + (-1)) M) else (L_X9_cheapest_170 n l0 l1 l2 l3 l4 (l5 + (-1)) M)) else none))
def f_X9_cheapest (l0 : Nat) (l1 : Int32) (l2 : Int32) (l3 : Int32) (M : zM) : Option (Int32 × zM) := bif Nat.ble 1 l0 then (bif zac M l0 9 58 then ((f_X9_isPerson l0 l1 M).bind fun r1 => if r1 = 0 then (some ((-1000000001), M)) else (bif zac M l0 9 58 then ((f_X9_isWord l0 l2 M).bind fun r4 => if r4 = 0 then (some ((-1000000001), M)) else ((f_X9_in (Int32.toInt64 l3) 0 1 M).bind fun r7 => if r7 = 0 then (some ((-1000000002), M)) else ((L_X9_cheapest_35 zN l0 l1 l2 l3 0 M).bind fun M11 => (L_X9_cheapest_59 zN l0 l1 l2 l3 0 M11).bind fun M13 => (L_X9_cheapest_170 zN l0 l1 l2 l3 (-1) 3 M13).bind fun v15 => if l3 = 0 then ((oR M13 l0 9 58 34).bind fun v17 => (aI M13 v17 l2).bind fun v19 => some (v19, M13)) else (some (v15, M13))))) else none)) else none) else none
set_option maxRecDepth 100000 in
set_option maxHeartbeats 2000000 in
theorem LX_X9_cheapest_35 {G : zG} {d : Nat} : ∀ (n : Nat) (l0 : Nat) (l1 : Int32) (l2 : Int32) (l3 : Int32) (l4 : Int32) (M : zM) (hl0 : l0 ≠ 0) (MX : zM) {res : Option Value × zM}, L_X9_cheapest_35 n l0 l1 l2 l3 l4 M = some MX → Ex G (d + 3) yX9_cheapest cX9_cheapest 8 (some .int) 56 [.ref l0, .int l1, .int l2, .int l3, .null, .null, .null, .null] [] MX res → Ex G (d + 3) yX9_cheapest cX9_cheapest 8 (some .int) 35 [.ref l0, .int l1, .int l2, .int l3, .int l4, .null, .null, .null] [] M res := by
  intro n
  induction n with
  | zero =>
    intro l0 l1 l2 l3 l4 M hl0 MX res h K
    simp [L_X9_cheapest_35] at h
  | succ n ih =>
    intro l0 l1 l2 l3 l4 M hl0 MX res h K
    simp only [L_X9_cheapest_35] at h
    refine x_iload (pc := 35) dX9_cheapest_35 rfl ?_
    refine x_bipush (pc := 37) dX9_cheapest_37 (v := 8) (by decide) ?_
    refine x_icmp_ge (pc := 39) dX9_cheapest_39 (t := 56) rfl (fun c10 => ?_) (fun c10 => ?_)
    · rw [if_pos c10] at h
      obtain rfl := s1 h
      refine ex_weak (Ls2 := [.ref l0, .int l1, .int l2, .int l3, .null, .null, .null, .null]) ⟨Or.inr rfl, Or.inr rfl, Or.inr rfl, Or.inr rfl, Or.inl rfl, Or.inl rfl, Or.inl rfl, Or.inl rfl, trivial⟩ ?_
      exact K
    · rw [if_neg c10] at h
      refine x_aload_n (pc := 42) dX9_cheapest_42 rfl rfl hl0 ?_
      obtain ⟨v11, e12, h⟩ := ob h
      refine y_getR (pc := 43) dX9_cheapest_43 zf_X9_66 e12 ?_
      refine x_iload (pc := 46) dX9_cheapest_46 rfl ?_
      refine x_iconst (pc := 48) dX9_cheapest_48 (v := (-1)) rfl ?_
      obtain ⟨M13, e14, h⟩ := ob h
      refine y_iast (pc := 49) dX9_cheapest_49 e14 ?_
      refine x_iinc (pc := 50) dX9_cheapest_50 rfl rfl (by decide) rfl ?_
      refine x_goto (pc := 53) dX9_cheapest_53 (t := 35) rfl ?_
      refine ex_weak (Ls2 := [.ref l0, .int l1, .int l2, .int l3, .int (l4 + 1), .null, .null, .null]) ⟨Or.inr rfl, Or.inr rfl, Or.inr rfl, Or.inr rfl, Or.inr rfl, Or.inl rfl, Or.inl rfl, Or.inl rfl, trivial⟩ ?_
      exact ih _ _ _ _ _ _ hl0  _ h K
set_option maxRecDepth 100000 in
set_option maxHeartbeats 2000000 in
theorem LX_X9_cheapest_81 {G : zG} {d : Nat} : ∀ (n : Nat) (l0 : Nat) (l1 : Int32) (l2 : Int32) (l3 : Int32) (l4 : Int32) (l5 : Int32) (l6 : Int32) (M : zM) (hl0 : l0 ≠ 0) (MX : zM) {res : Option Value × zM}, L_X9_cheapest_81 n l0 l1 l2 l3 l4 l5 l6 M = some MX → Ex G (d + 3) yX9_cheapest cX9_cheapest 8 (some .int) 152 [.ref l0, .int l1, .int l2, .int l3, .int l4, .int l5, .null, .null] [] MX res → Ex G (d + 3) yX9_cheapest cX9_cheapest 8 (some .int) 81 [.ref l0, .int l1, .int l2, .int l3, .int l4, .int l5, .int l6, .null] [] M res := by
  intro n
  induction n with
  | zero =>
    intro l0 l1 l2 l3 l4 l5 l6 M hl0 MX res h K
    simp [L_X9_cheapest_81] at h
  | succ n ih =>
    intro l0 l1 l2 l3 l4 l5 l6 M hl0 MX res h K
    simp only [L_X9_cheapest_81] at h
    refine x_iload (pc := 81) dX9_cheapest_81 rfl ?_
    refine x_iconst (pc := 83) dX9_cheapest_83 (v := 4) rfl ?_
    refine x_icmp_ge (pc := 84) dX9_cheapest_84 (t := 152) rfl (fun c16 => ?_) (fun c16 => ?_)
    · rw [if_pos c16] at h
      obtain rfl := s1 h
      refine ex_weak (Ls2 := [.ref l0, .int l1, .int l2, .int l3, .int l4, .int l5, .null, .null]) ⟨Or.inr rfl, Or.inr rfl, Or.inr rfl, Or.inr rfl, Or.inr rfl, Or.inr rfl, Or.inl rfl, Or.inl rfl, trivial⟩ ?_
      exact K
    · rw [if_neg c16] at h
      refine x_aload_n (pc := 87) dX9_cheapest_87 rfl rfl hl0 ?_
      refine x_iload_n (pc := 88) dX9_cheapest_88 rfl rfl ?_
      refine x_iload (pc := 89) dX9_cheapest_89 rfl ?_
      refine x_iload (pc := 91) dX9_cheapest_91 rfl ?_
      obtain ⟨g48, h⟩ := bt h
      obtain ⟨r17, e18, h⟩ := ob h
      refine x_callV (av := [.int l1, .int l5, .int l6]) (st := []) (pc := 93) dX9_cheapest_93 (E_X9_costBy (d := d) e18) rfl (Nat.le_of_ble_eq_true rfl) zc_X9_costBy rfl zm_X9_315 zi_X9_costBy zs_X9_costBy (zac_ok g48) (by decide) rfl rfl (zst_ok rfl (Nat.le_of_ble_eq_true rfl)) rfl ?_
      refine x_istore (pc := 96) dX9_cheapest_96 (by decide) rfl ?_
      refine x_aload_n (pc := 98) dX9_cheapest_98 rfl rfl hl0 ?_
      obtain ⟨v19, e20, h⟩ := ob h
      refine y_getR (pc := 99) dX9_cheapest_99 zf_X9_66 e20 ?_
      refine x_iload (pc := 102) dX9_cheapest_102 rfl ?_
      refine x_iload (pc := 104) dX9_cheapest_104 rfl ?_
      refine x_iconst (pc := 106) dX9_cheapest_106 (v := (-1)) rfl ?_
      refine x_icmp_eq (pc := 107) dX9_cheapest_107 (t := 138) rfl (fun c21 => ?_) (fun c21 => ?_)
      · rw [if_pos c21] at h
        refine x_aload_n (pc := 138) dX9_cheapest_138 rfl rfl hl0 ?_
        obtain ⟨v22, e23, h⟩ := ob h
        refine y_getR (pc := 139) dX9_cheapest_139 zf_X9_66 e23 ?_
        refine x_iload (pc := 142) dX9_cheapest_142 rfl ?_
        obtain ⟨v24, e25, h⟩ := ob h
        refine y_iald (pc := 144) dX9_cheapest_144 e25 ?_
        obtain ⟨M26, e27, h⟩ := ob h
        refine y_iast (pc := 145) dX9_cheapest_145 e27 ?_
        refine x_iinc (pc := 146) dX9_cheapest_146 rfl rfl (by decide) rfl ?_
        refine x_goto (pc := 149) dX9_cheapest_149 (t := 81) rfl ?_
        refine ex_weak (Ls2 := [.ref l0, .int l1, .int l2, .int l3, .int l4, .int l5, .int (l6 + 1), .null]) ⟨Or.inr rfl, Or.inr rfl, Or.inr rfl, Or.inr rfl, Or.inr rfl, Or.inr rfl, Or.inr rfl, Or.inl rfl, trivial⟩ ?_
        exact ih _ _ _ _ _ _ _ _ hl0  _ h K
      · rw [if_neg c21] at h
        refine x_aload_n (pc := 110) dX9_cheapest_110 rfl rfl hl0 ?_
        obtain ⟨v28, e29, h⟩ := ob h
        refine y_getR (pc := 111) dX9_cheapest_111 zf_X9_66 e29 ?_
        refine x_iload (pc := 114) dX9_cheapest_114 rfl ?_
        obtain ⟨v30, e31, h⟩ := ob h
        refine y_iald (pc := 116) dX9_cheapest_116 e31 ?_
        refine x_iconst (pc := 117) dX9_cheapest_117 (v := (-1)) rfl ?_
        refine x_icmp_eq (pc := 118) dX9_cheapest_118 (t := 133) rfl (fun c32 => ?_) (fun c32 => ?_)
        · rw [if_pos c32] at h
          refine x_iload (pc := 133) dX9_cheapest_133 rfl ?_
          refine x_goto (pc := 135) dX9_cheapest_135 (t := 145) rfl ?_
          obtain ⟨M33, e34, h⟩ := ob h
          refine y_iast (pc := 145) dX9_cheapest_145 e34 ?_
          refine x_iinc (pc := 146) dX9_cheapest_146 rfl rfl (by decide) rfl ?_
          refine x_goto (pc := 149) dX9_cheapest_149 (t := 81) rfl ?_
          refine ex_weak (Ls2 := [.ref l0, .int l1, .int l2, .int l3, .int l4, .int l5, .int (l6 + 1), .null]) ⟨Or.inr rfl, Or.inr rfl, Or.inr rfl, Or.inr rfl, Or.inr rfl, Or.inr rfl, Or.inr rfl, Or.inl rfl, trivial⟩ ?_
          exact ih _ _ _ _ _ _ _ _ hl0  _ h K
        · rw [if_neg c32] at h
          refine x_iload (pc := 121) dX9_cheapest_121 rfl ?_
          refine x_aload_n (pc := 123) dX9_cheapest_123 rfl rfl hl0 ?_
          obtain ⟨v35, e36, h⟩ := ob h
          refine y_getR (pc := 124) dX9_cheapest_124 zf_X9_66 e36 ?_
          refine x_iload (pc := 127) dX9_cheapest_127 rfl ?_
          obtain ⟨v37, e38, h⟩ := ob h
          refine y_iald (pc := 129) dX9_cheapest_129 e38 ?_
          refine x_icmp_ge (pc := 130) dX9_cheapest_130 (t := 138) rfl (fun c39 => ?_) (fun c39 => ?_)
          · rw [if_pos c39] at h
            refine x_aload_n (pc := 138) dX9_cheapest_138 rfl rfl hl0 ?_
            obtain ⟨v40, e41, h⟩ := ob h
            refine y_getR (pc := 139) dX9_cheapest_139 zf_X9_66 e41 ?_
            refine x_iload (pc := 142) dX9_cheapest_142 rfl ?_
            obtain ⟨v42, e43, h⟩ := ob h
            refine y_iald (pc := 144) dX9_cheapest_144 e43 ?_
            obtain ⟨M44, e45, h⟩ := ob h
            refine y_iast (pc := 145) dX9_cheapest_145 e45 ?_
            refine x_iinc (pc := 146) dX9_cheapest_146 rfl rfl (by decide) rfl ?_
            refine x_goto (pc := 149) dX9_cheapest_149 (t := 81) rfl ?_
            refine ex_weak (Ls2 := [.ref l0, .int l1, .int l2, .int l3, .int l4, .int l5, .int (l6 + 1), .null]) ⟨Or.inr rfl, Or.inr rfl, Or.inr rfl, Or.inr rfl, Or.inr rfl, Or.inr rfl, Or.inr rfl, Or.inl rfl, trivial⟩ ?_
            exact ih _ _ _ _ _ _ _ _ hl0  _ h K
          · rw [if_neg c39] at h
            refine x_iload (pc := 133) dX9_cheapest_133 rfl ?_
            refine x_goto (pc := 135) dX9_cheapest_135 (t := 145) rfl ?_
            obtain ⟨M46, e47, h⟩ := ob h
            refine y_iast (pc := 145) dX9_cheapest_145 e47 ?_
            refine x_iinc (pc := 146) dX9_cheapest_146 rfl rfl (by decide) rfl ?_
            refine x_goto (pc := 149) dX9_cheapest_149 (t := 81) rfl ?_
            refine ex_weak (Ls2 := [.ref l0, .int l1, .int l2, .int l3, .int l4, .int l5, .int (l6 + 1), .null]) ⟨Or.inr rfl, Or.inr rfl, Or.inr rfl, Or.inr rfl, Or.inr rfl, Or.inr rfl, Or.inr rfl, Or.inl rfl, trivial⟩ ?_
            exact ih _ _ _ _ _ _ _ _ hl0  _ h K
set_option maxRecDepth 100000 in
set_option maxHeartbeats 2000000 in
theorem LX_X9_cheapest_69 {G : zG} {d : Nat} : ∀ (n : Nat) (l0 : Nat) (l1 : Int32) (l2 : Int32) (l3 : Int32) (l4 : Int32) (l5 : Int32) (M : zM) (hl0 : l0 ≠ 0) (MX : zM) {res : Option Value × zM}, L_X9_cheapest_69 n l0 l1 l2 l3 l4 l5 M = some MX → Ex G (d + 3) yX9_cheapest cX9_cheapest 8 (some .int) 158 [.ref l0, .int l1, .int l2, .int l3, .int l4, .null, .null, .null] [] MX res → Ex G (d + 3) yX9_cheapest cX9_cheapest 8 (some .int) 69 [.ref l0, .int l1, .int l2, .int l3, .int l4, .int l5, .null, .null] [] M res := by
  intro n
  induction n with
  | zero =>
    intro l0 l1 l2 l3 l4 l5 M hl0 MX res h K
    simp [L_X9_cheapest_69] at h
  | succ n ih =>
    intro l0 l1 l2 l3 l4 l5 M hl0 MX res h K
    simp only [L_X9_cheapest_69] at h
    refine x_iload (pc := 69) dX9_cheapest_69 rfl ?_
    refine x_aload_n (pc := 71) dX9_cheapest_71 rfl rfl hl0 ?_
    obtain ⟨v13, e14, h⟩ := ob h
    refine y_getI (pc := 72) dX9_cheapest_72 zf_X9_117 e14 (by decide) ?_
    refine x_icmp_ge (pc := 75) dX9_cheapest_75 (t := 158) rfl (fun c15 => ?_) (fun c15 => ?_)
    · rw [if_pos c15] at h
      obtain rfl := s1 h
      refine ex_weak (Ls2 := [.ref l0, .int l1, .int l2, .int l3, .int l4, .null, .null, .null]) ⟨Or.inr rfl, Or.inr rfl, Or.inr rfl, Or.inr rfl, Or.inr rfl, Or.inl rfl, Or.inl rfl, Or.inl rfl, trivial⟩ ?_
      exact K
    · rw [if_neg c15] at h
      refine x_iconst (pc := 78) dX9_cheapest_78 (v := 0) rfl ?_
      refine x_istore (pc := 79) dX9_cheapest_79 (by decide) rfl ?_
      obtain ⟨M17, e16, h⟩ := ob h
      refine ex_weak (Ls2 := [.ref l0, .int l1, .int l2, .int l3, .int l4, .int l5, .int 0, .null]) ⟨Or.inr rfl, Or.inr rfl, Or.inr rfl, Or.inr rfl, Or.inr rfl, Or.inr rfl, Or.inr rfl, Or.inl rfl, trivial⟩ ?_
      refine LX_X9_cheapest_81 zN _ _ _ _ _ _ _ _ hl0 _ e16 ?_
      refine x_iinc (pc := 152) dX9_cheapest_152 rfl rfl (by decide) rfl ?_
      refine x_goto (pc := 155) dX9_cheapest_155 (t := 69) rfl ?_
      refine ex_weak (Ls2 := [.ref l0, .int l1, .int l2, .int l3, .int l4, .int (l5 + 1), .null, .null]) ⟨Or.inr rfl, Or.inr rfl, Or.inr rfl, Or.inr rfl, Or.inr rfl, Or.inr rfl, Or.inl rfl, Or.inl rfl, trivial⟩ ?_
      exact ih _ _ _ _ _ _ _ hl0  _ h K
set_option maxRecDepth 100000 in
set_option maxHeartbeats 2000000 in
theorem LX_X9_cheapest_59 {G : zG} {d : Nat} : ∀ (n : Nat) (l0 : Nat) (l1 : Int32) (l2 : Int32) (l3 : Int32) (l4 : Int32) (M : zM) (hl0 : l0 ≠ 0) (MX : zM) {res : Option Value × zM}, L_X9_cheapest_59 n l0 l1 l2 l3 l4 M = some MX → Ex G (d + 3) yX9_cheapest cX9_cheapest 8 (some .int) 164 [.ref l0, .int l1, .int l2, .int l3, .null, .null, .null, .null] [] MX res → Ex G (d + 3) yX9_cheapest cX9_cheapest 8 (some .int) 59 [.ref l0, .int l1, .int l2, .int l3, .int l4, .null, .null, .null] [] M res := by
  intro n
  induction n with
  | zero =>
    intro l0 l1 l2 l3 l4 M hl0 MX res h K
    simp [L_X9_cheapest_59] at h
  | succ n ih =>
    intro l0 l1 l2 l3 l4 M hl0 MX res h K
    simp only [L_X9_cheapest_59] at h
    refine x_iload (pc := 59) dX9_cheapest_59 rfl ?_
    refine x_bipush (pc := 61) dX9_cheapest_61 (v := 10) (by decide) ?_
    refine x_icmp_ge (pc := 63) dX9_cheapest_63 (t := 164) rfl (fun c12 => ?_) (fun c12 => ?_)
    · rw [if_pos c12] at h
      obtain rfl := s1 h
      refine ex_weak (Ls2 := [.ref l0, .int l1, .int l2, .int l3, .null, .null, .null, .null]) ⟨Or.inr rfl, Or.inr rfl, Or.inr rfl, Or.inr rfl, Or.inl rfl, Or.inl rfl, Or.inl rfl, Or.inl rfl, trivial⟩ ?_
      exact K
    · rw [if_neg c12] at h
      refine x_iconst (pc := 66) dX9_cheapest_66 (v := 0) rfl ?_
      refine x_istore (pc := 67) dX9_cheapest_67 (by decide) rfl ?_
      obtain ⟨M14, e13, h⟩ := ob h
      refine ex_weak (Ls2 := [.ref l0, .int l1, .int l2, .int l3, .int l4, .int 0, .null, .null]) ⟨Or.inr rfl, Or.inr rfl, Or.inr rfl, Or.inr rfl, Or.inr rfl, Or.inr rfl, Or.inl rfl, Or.inl rfl, trivial⟩ ?_
      refine LX_X9_cheapest_69 zN _ _ _ _ _ _ _ hl0 _ e13 ?_
      refine x_iinc (pc := 158) dX9_cheapest_158 rfl rfl (by decide) rfl ?_
      refine x_goto (pc := 161) dX9_cheapest_161 (t := 59) rfl ?_
      refine ex_weak (Ls2 := [.ref l0, .int l1, .int l2, .int l3, .int (l4 + 1), .null, .null, .null]) ⟨Or.inr rfl, Or.inr rfl, Or.inr rfl, Or.inr rfl, Or.inr rfl, Or.inl rfl, Or.inl rfl, Or.inl rfl, trivial⟩ ?_
      exact ih _ _ _ _ _ _ hl0  _ h K
set_option maxRecDepth 100000 in
set_option maxHeartbeats 2000000 in
theorem LX_X9_cheapest_170 {G : zG} {d : Nat} : ∀ (n : Nat) (l0 : Nat) (l1 : Int32) (l2 : Int32) (l3 : Int32) (l4 : Int32) (l5 : Int32) (M : zM) (hl0 : l0 ≠ 0) (o4 : Int32) {res : Option Value × zM}, L_X9_cheapest_170 n l0 l1 l2 l3 l4 l5 M = some o4 → Ex G (d + 3) yX9_cheapest cX9_cheapest 8 (some .int) 217 [.ref l0, .null, .int l2, .int l3, .int o4, .null, .null, .null] [] M res → Ex G (d + 3) yX9_cheapest cX9_cheapest 8 (some .int) 170 [.ref l0, .int l1, .int l2, .int l3, .int l4, .int l5, .null, .null] [] M res := by
  intro n
  induction n with
  | zero =>
    intro l0 l1 l2 l3 l4 l5 M hl0 o4 res h K
    simp [L_X9_cheapest_170] at h
  | succ n ih =>
    intro l0 l1 l2 l3 l4 l5 M hl0 o4 res h K
    simp only [L_X9_cheapest_170] at h
    refine x_iload (pc := 170) dX9_cheapest_170 rfl ?_
    refine x_if_lt (pc := 172) dX9_cheapest_172 (t := 217) rfl (fun c14 => ?_) (fun c14 => ?_)
    · rw [if_pos c14] at h
      obtain rfl := s1 h
      refine ex_weak (Ls2 := [.ref l0, .null, .int l2, .int l3, .int l4, .null, .null, .null]) ⟨Or.inr rfl, Or.inl rfl, Or.inr rfl, Or.inr rfl, Or.inr rfl, Or.inl rfl, Or.inl rfl, Or.inl rfl, trivial⟩ ?_
      exact K
    · rw [if_neg c14] at h
      refine x_aload_n (pc := 175) dX9_cheapest_175 rfl rfl hl0 ?_
      obtain ⟨v15, e16, h⟩ := ob h
      refine y_getR (pc := 176) dX9_cheapest_176 zf_X9_66 e16 ?_
      refine x_iload_n (pc := 179) dX9_cheapest_179 rfl rfl ?_
      obtain ⟨v17, e18, h⟩ := ob h
      refine y_iald (pc := 180) dX9_cheapest_180 e18 ?_
      refine x_iconst (pc := 181) dX9_cheapest_181 (v := (-1)) rfl ?_
      refine x_icmp_eq (pc := 182) dX9_cheapest_182 (t := 207) rfl (fun c19 => ?_) (fun c19 => ?_)
      · rw [if_pos c19] at h
        refine x_iload (pc := 207) dX9_cheapest_207 rfl ?_
        refine x_istore (pc := 209) dX9_cheapest_209 (by decide) rfl ?_
        refine x_iinc (pc := 211) dX9_cheapest_211 rfl rfl (by decide) rfl ?_
        refine x_goto (pc := 214) dX9_cheapest_214 (t := 170) rfl ?_
        refine ex_weak (Ls2 := [.ref l0, .int l1, .int l2, .int l3, .int l4, .int (l5 + (-1)), .null, .null]) ⟨Or.inr rfl, Or.inr rfl, Or.inr rfl, Or.inr rfl, Or.inr rfl, Or.inr rfl, Or.inl rfl, Or.inl rfl, trivial⟩ ?_
        exact ih _ _ _ _ _ _ _ hl0 _ h K
      · rw [if_neg c19] at h
        refine x_aload_n (pc := 185) dX9_cheapest_185 rfl rfl hl0 ?_
        refine x_iload_n (pc := 186) dX9_cheapest_186 rfl rfl ?_
        refine x_iload_n (pc := 187) dX9_cheapest_187 rfl rfl ?_
        refine x_iload (pc := 188) dX9_cheapest_188 rfl ?_
        obtain ⟨g27, h⟩ := bt h
        obtain ⟨r20, e21, h⟩ := ob h
        refine x_callV (av := [.int l1, .int l2, .int l5]) (st := []) (pc := 190) dX9_cheapest_190 (E_X9_costBy (d := d) e21) rfl (Nat.le_of_ble_eq_true rfl) zc_X9_costBy rfl zm_X9_315 zi_X9_costBy zs_X9_costBy (zac_ok g27) (by decide) rfl rfl (zst_ok rfl (Nat.le_of_ble_eq_true rfl)) rfl ?_
        refine x_aload_n (pc := 193) dX9_cheapest_193 rfl rfl hl0 ?_
        obtain ⟨v22, e23, h⟩ := ob h
        refine y_getR (pc := 194) dX9_cheapest_194 zf_X9_66 e23 ?_
        refine x_iload_n (pc := 197) dX9_cheapest_197 rfl rfl ?_
        obtain ⟨v24, e25, h⟩ := ob h
        refine y_iald (pc := 198) dX9_cheapest_198 e25 ?_
        refine x_icmp_ne (pc := 199) dX9_cheapest_199 (t := 207) rfl (fun c26 => ?_) (fun c26 => ?_)
        · rw [if_neg c26] at h
          refine x_iload (pc := 207) dX9_cheapest_207 rfl ?_
          refine x_istore (pc := 209) dX9_cheapest_209 (by decide) rfl ?_
          refine x_iinc (pc := 211) dX9_cheapest_211 rfl rfl (by decide) rfl ?_
          refine x_goto (pc := 214) dX9_cheapest_214 (t := 170) rfl ?_
          refine ex_weak (Ls2 := [.ref l0, .int l1, .int l2, .int l3, .int l4, .int (l5 + (-1)), .null, .null]) ⟨Or.inr rfl, Or.inr rfl, Or.inr rfl, Or.inr rfl, Or.inr rfl, Or.inr rfl, Or.inl rfl, Or.inl rfl, trivial⟩ ?_
          exact ih _ _ _ _ _ _ _ hl0 _ h K
        · rw [if_pos c26] at h
          refine x_iload (pc := 202) dX9_cheapest_202 rfl ?_
          refine x_goto (pc := 204) dX9_cheapest_204 (t := 209) rfl ?_
          refine x_istore (pc := 209) dX9_cheapest_209 (by decide) rfl ?_
          refine x_iinc (pc := 211) dX9_cheapest_211 rfl rfl (by decide) rfl ?_
          refine x_goto (pc := 214) dX9_cheapest_214 (t := 170) rfl ?_
          refine ex_weak (Ls2 := [.ref l0, .int l1, .int l2, .int l3, .int l5, .int (l5 + (-1)), .null, .null]) ⟨Or.inr rfl, Or.inr rfl, Or.inr rfl, Or.inr rfl, Or.inr rfl, Or.inr rfl, Or.inl rfl, Or.inl rfl, trivial⟩ ?_
          exact ih _ _ _ _ _ _ _ hl0 _ h K
set_option maxRecDepth 100000 in
set_option maxHeartbeats 2000000 in
theorem E_X9_cheapest {G : zG} {d : Nat} {l0 : Nat} {l1 : Int32} {l2 : Int32} {l3 : Int32} {M MR : zM} {r : Int32} (h : f_X9_cheapest l0 l1 l2 l3 M = some (r, MR)) : Ex G (d + 3) yX9_cheapest cX9_cheapest 8 (some .int) 0 (zent0 [.ref l0, .int l1, .int l2, .int l3] 8) [] M (some (.int r), MR) := by
  unfold f_X9_cheapest at h
  obtain ⟨zz0, h⟩ := bt h
  have hl0 := bz zz0
  show Ex _ _ _ _ _ _ 0 [.ref l0, .int l1, .int l2, .int l3, .null, .null, .null, .null] [] _ _
  refine x_aload_n (pc := 0) dX9_cheapest_0 rfl rfl hl0 ?_
  refine x_iload_n (pc := 1) dX9_cheapest_1 rfl rfl ?_
  obtain ⟨g22, h⟩ := bt h
  obtain ⟨r1, e2, h⟩ := ob h
  refine x_callV (av := [.int l1]) (st := []) (pc := 2) dX9_cheapest_2 (E_X9_isPerson (d := d + 1) e2) rfl (Nat.le_of_ble_eq_true rfl) zc_X9_isPerson rfl zm_X9_243 zi_X9_isPerson zs_X9_isPerson (zac_ok g22) (by decide) rfl rfl (zst_ok rfl (Nat.le_of_ble_eq_true rfl)) rfl ?_
  refine x_if_eq (pc := 5) dX9_cheapest_5 (t := 16) rfl (fun c3 => ?_) (fun c3 => ?_)
  · rw [if_pos c3] at h
    refine x_ldc (pc := 16) dX9_cheapest_16 zk_X9_238 ?_
    obtain ⟨rfl, rfl⟩ := s2 h
    exact y_retI (pc := 18) dX9_cheapest_18 rfl
  · rw [if_neg c3] at h
    refine x_aload_n (pc := 8) dX9_cheapest_8 rfl rfl hl0 ?_
    refine x_iload_n (pc := 9) dX9_cheapest_9 rfl rfl ?_
    obtain ⟨g21, h⟩ := bt h
    obtain ⟨r4, e5, h⟩ := ob h
    refine x_callV (av := [.int l2]) (st := []) (pc := 10) dX9_cheapest_10 (E_X9_isWord (d := d + 1) e5) rfl (Nat.le_of_ble_eq_true rfl) zc_X9_isWord rfl zm_X9_235 zi_X9_isWord zs_X9_isWord (zac_ok g21) (by decide) rfl rfl (zst_ok rfl (Nat.le_of_ble_eq_true rfl)) rfl ?_
    refine x_if_ne (pc := 13) dX9_cheapest_13 (t := 19) rfl (fun c6 => ?_) (fun c6 => ?_)
    · rw [if_neg c6] at h
      refine x_iload_n (pc := 19) dX9_cheapest_19 rfl rfl ?_
      refine x_i2l (pc := 20) dX9_cheapest_20 ?_
      refine x_lconst (pc := 21) dX9_cheapest_21 (v := 0) rfl ?_
      refine x_lconst (pc := 22) dX9_cheapest_22 (v := 1) rfl ?_
      obtain ⟨r7, e8, h⟩ := ob h
      refine x_callS (av := [.long (Int32.toInt64 l3), .long 0, .long 1]) (st := []) (pc := 23) dX9_cheapest_23 (E_X9_in (d := d + 2) e8) rfl (Nat.le_of_ble_eq_true rfl) zc_X9_in rfl zm_X9_120 zs_X9_in rfl (zst_ok rfl (Nat.le_of_ble_eq_true rfl)) rfl ?_
      refine x_if_ne (pc := 26) dX9_cheapest_26 (t := 32) rfl (fun c9 => ?_) (fun c9 => ?_)
      · rw [if_neg c9] at h
        refine x_iconst (pc := 32) dX9_cheapest_32 (v := 0) rfl ?_
        refine x_istore (pc := 33) dX9_cheapest_33 (by decide) rfl ?_
        obtain ⟨M11, e10, h⟩ := ob h
        refine ex_weak (Ls2 := [.ref l0, .int l1, .int l2, .int l3, .int 0, .null, .null, .null]) ⟨Or.inr rfl, Or.inr rfl, Or.inr rfl, Or.inr rfl, Or.inr rfl, Or.inl rfl, Or.inl rfl, Or.inl rfl, trivial⟩ ?_
        refine LX_X9_cheapest_35 zN _ _ _ _ _ _ hl0 _ e10 ?_
        refine x_iconst (pc := 56) dX9_cheapest_56 (v := 0) rfl ?_
        refine x_istore (pc := 57) dX9_cheapest_57 (by decide) rfl ?_
        obtain ⟨M13, e12, h⟩ := ob h
        refine ex_weak (Ls2 := [.ref l0, .int l1, .int l2, .int l3, .int 0, .null, .null, .null]) ⟨Or.inr rfl, Or.inr rfl, Or.inr rfl, Or.inr rfl, Or.inr rfl, Or.inl rfl, Or.inl rfl, Or.inl rfl, trivial⟩ ?_
        refine LX_X9_cheapest_59 zN _ _ _ _ _ _ hl0 _ e12 ?_
        refine x_iconst (pc := 164) dX9_cheapest_164 (v := (-1)) rfl ?_
        refine x_istore (pc := 165) dX9_cheapest_165 (by decide) rfl ?_
        refine x_iconst (pc := 167) dX9_cheapest_167 (v := 3) rfl ?_
        refine x_istore (pc := 168) dX9_cheapest_168 (by decide) rfl ?_
        obtain ⟨v15, e14, h⟩ := ob h
        refine ex_weak (Ls2 := [.ref l0, .int l1, .int l2, .int l3, .int (-1), .int 3, .null, .null]) ⟨Or.inr rfl, Or.inr rfl, Or.inr rfl, Or.inr rfl, Or.inr rfl, Or.inr rfl, Or.inl rfl, Or.inl rfl, trivial⟩ ?_
        refine LX_X9_cheapest_170 zN _ _ _ _ _ _ _ hl0 _ e14 ?_
        refine x_iload_n (pc := 217) dX9_cheapest_217 rfl rfl ?_
        refine x_if_ne (pc := 218) dX9_cheapest_218 (t := 230) rfl (fun c16 => ?_) (fun c16 => ?_)
        · rw [if_neg c16] at h
          refine x_iload (pc := 230) dX9_cheapest_230 rfl ?_
          obtain ⟨rfl, rfl⟩ := s2 h
          exact y_retI (pc := 232) dX9_cheapest_232 rfl
        · rw [if_pos c16] at h
          refine x_aload_n (pc := 221) dX9_cheapest_221 rfl rfl hl0 ?_
          obtain ⟨v17, e18, h⟩ := ob h
          refine y_getR (pc := 222) dX9_cheapest_222 zf_X9_66 e18 ?_
          refine x_iload_n (pc := 225) dX9_cheapest_225 rfl rfl ?_
          obtain ⟨v19, e20, h⟩ := ob h
          refine y_iald (pc := 226) dX9_cheapest_226 e20 ?_
          refine x_goto (pc := 227) dX9_cheapest_227 (t := 232) rfl ?_
          obtain ⟨rfl, rfl⟩ := s2 h
          exact y_retI (pc := 232) dX9_cheapest_232 rfl
      · rw [if_pos c9] at h
        refine x_ldc (pc := 29) dX9_cheapest_29 zk_X9_133 ?_
        obtain ⟨rfl, rfl⟩ := s2 h
        exact y_retI (pc := 31) dX9_cheapest_31 rfl
    · rw [if_pos c6] at h
      refine x_ldc (pc := 16) dX9_cheapest_16 zk_X9_238 ?_
      obtain ⟨rfl, rfl⟩ := s2 h
      exact y_retI (pc := 18) dX9_cheapest_18 rfl
def L_X9_runsOut_29 : Nat → Nat → Int32 → Int32 → Int32 → zM → Option ((Int32 × zM) ⊕ (zM))
  | 0, _, _, _, _, _ => none
  | n + 1, l0, l1, l2, l3, M => if l2 < l3 then (some (.inr M)) else (if 99 < l3 then (some (.inr M)) else ((oR M l0 9 58 1).bind fun v12 => (aI M v12 (13 + l1)).bind fun v14 => if v14 = 0 then (some (.inl (l3, M))) else ((oR M l0 9 58 1).bind fun v17 => bif zac M l0 9 58 then (b2 (f_X9_goOn l0 v17 M) fun r19 M20 => L_X9_runsOut_29 n l0 l1 l2 (l3 + 1) M20) else none)))
def f_X9_runsOut (l0 : Nat) (l1 : Int32) (M : zM) : Option (Int32 × zM) := bif Nat.ble 1 l0 then (bif zac M l0 9 58 then ((f_X9_isWord l0 l1 M).bind fun r1 => if r1 = 0 then (some ((-1000000001), M)) else (bif zac M l0 9 58 then ((f_X9_layTried l0 M).bind fun M4 => (oI M4 l0 9 58 5).bind fun v6 => bif zac M4 l0 9 58 then ((f_X9_dayNow l0 M4).bind fun r8 => bs (L_X9_runsOut_29 zN l0 l1 ((v6 - 1) - r8) 0 M4) some (fun M11 => some ((-1), M11))) else none) else none)) else none) else none
theorem LX_X9_runsOut_29 {G : zG} {d : Nat} : ∀ (n : Nat) (l0 : Nat) (l1 : Int32) (l2 : Int32) (l3 : Int32) (M : zM) (hl0 : l0 ≠ 0) (e : (Int32 × zM) ⊕ (zM)) {res : Option Value × zM}, L_X9_runsOut_29 n l0 l1 l2 l3 M = some e → (∀ r, e = .inl r → res = (some (.int r.1), r.2)) → (∀ (MX : zM), e = .inr MX → Ex G (d + 5) yX9_runsOut cX9_runsOut 5 (some .int) 70 [.null, .null, .null, .null, .null] [] MX res) → Ex G (d + 5) yX9_runsOut cX9_runsOut 5 (some .int) 29 [.ref l0, .int l1, .int l2, .int l3, .null] [] M res := by
  intro n
  induction n with
  | zero =>
    intro l0 l1 l2 l3 M hl0 e res h K1 K2
    simp [L_X9_runsOut_29] at h
  | succ n ih =>
    intro l0 l1 l2 l3 M hl0 e res h K1 K2
    simp only [L_X9_runsOut_29] at h
    refine x_iload_n (pc := 29) dX9_runsOut_29 rfl rfl ?_
    refine x_iload_n (pc := 30) dX9_runsOut_30 rfl rfl ?_
    refine x_icmp_gt (pc := 31) dX9_runsOut_31 (t := 70) rfl (fun c10 => ?_) (fun c10 => ?_)
    · rw [if_pos c10] at h
      obtain rfl := s1 h
      refine ex_weak (Ls2 := [.null, .null, .null, .null, .null]) ⟨Or.inl rfl, Or.inl rfl, Or.inl rfl, Or.inl rfl, Or.inl rfl, trivial⟩ ?_
      exact K2 _ rfl
    · rw [if_neg c10] at h
      refine x_iload_n (pc := 34) dX9_runsOut_34 rfl rfl ?_
      refine x_bipush (pc := 35) dX9_runsOut_35 (v := 99) (by decide) ?_
      refine x_icmp_gt (pc := 37) dX9_runsOut_37 (t := 70) rfl (fun c11 => ?_) (fun c11 => ?_)
      · rw [if_pos c11] at h
        obtain rfl := s1 h
        refine ex_weak (Ls2 := [.null, .null, .null, .null, .null]) ⟨Or.inl rfl, Or.inl rfl, Or.inl rfl, Or.inl rfl, Or.inl rfl, trivial⟩ ?_
        exact K2 _ rfl
      · rw [if_neg c11] at h
        refine x_aload_n (pc := 40) dX9_runsOut_40 rfl rfl hl0 ?_
        obtain ⟨v12, e13, h⟩ := ob h
        refine y_getR (pc := 41) dX9_runsOut_41 zf_X9_13 e13 ?_
        refine x_bipush (pc := 44) dX9_runsOut_44 (v := 13) (by decide) ?_
        refine x_iload_n (pc := 46) dX9_runsOut_46 rfl rfl ?_
        refine x_iadd (pc := 47) dX9_runsOut_47 ?_
        obtain ⟨v14, e15, h⟩ := ob h
        refine y_iald (pc := 48) dX9_runsOut_48 e15 ?_
        refine x_if_ne (pc := 49) dX9_runsOut_49 (t := 54) rfl (fun c16 => ?_) (fun c16 => ?_)
        · rw [if_neg c16] at h
          refine x_aload_n (pc := 54) dX9_runsOut_54 rfl rfl hl0 ?_
          refine x_aload_n (pc := 55) dX9_runsOut_55 rfl rfl hl0 ?_
          obtain ⟨v17, e18, h⟩ := ob h
          refine y_getR (pc := 56) dX9_runsOut_56 zf_X9_13 e18 ?_
          obtain ⟨g22, h⟩ := bt h
          obtain ⟨r19, M20, e21, h⟩ := ob2 h
          refine x_callV (av := [.ref v17]) (st := []) (pc := 59) dX9_runsOut_59 (E_X9_goOn (d := d) e21) rfl (Nat.le_of_ble_eq_true rfl) zc_X9_goOn rfl zm_X9_290 zi_X9_goOn zs_X9_goOn (zac_ok g22) (by decide) rfl rfl (zst_ok rfl (Nat.le_of_ble_eq_true rfl)) rfl ?_
          refine x_istore (pc := 62) dX9_runsOut_62 (by decide) rfl ?_
          refine x_iinc (pc := 64) dX9_runsOut_64 rfl rfl (by decide) rfl ?_
          refine x_goto (pc := 67) dX9_runsOut_67 (t := 29) rfl ?_
          refine ex_weak (Ls2 := [.ref l0, .int l1, .int l2, .int (l3 + 1), .null]) ⟨Or.inr rfl, Or.inr rfl, Or.inr rfl, Or.inr rfl, Or.inl rfl, trivial⟩ ?_
          exact ih _ _ _ _ _ hl0 _ h K1 K2
        · rw [if_pos c16] at h
          refine x_iload_n (pc := 52) dX9_runsOut_52 rfl rfl ?_
          obtain rfl := s1 h
          rw [K1 _ rfl]
          exact y_retI (pc := 53) dX9_runsOut_53 rfl
theorem E_X9_runsOut {G : zG} {d : Nat} {l0 : Nat} {l1 : Int32} {M MR : zM} {r : Int32} (h : f_X9_runsOut l0 l1 M = some (r, MR)) : Ex G (d + 5) yX9_runsOut cX9_runsOut 5 (some .int) 0 (zent0 [.ref l0, .int l1] 5) [] M (some (.int r), MR) := by
  unfold f_X9_runsOut at h
  obtain ⟨zz0, h⟩ := bt h
  have hl0 := bz zz0
  show Ex _ _ _ _ _ _ 0 [.ref l0, .int l1, .null, .null, .null] [] _ _
  refine x_aload_n (pc := 0) dX9_runsOut_0 rfl rfl hl0 ?_
  refine x_iload_n (pc := 1) dX9_runsOut_1 rfl rfl ?_
  obtain ⟨g16, h⟩ := bt h
  obtain ⟨r1, e2, h⟩ := ob h
  refine x_callV (av := [.int l1]) (st := []) (pc := 2) dX9_runsOut_2 (E_X9_isWord (d := d + 3) e2) rfl (Nat.le_of_ble_eq_true rfl) zc_X9_isWord rfl zm_X9_235 zi_X9_isWord zs_X9_isWord (zac_ok g16) (by decide) rfl rfl (zst_ok rfl (Nat.le_of_ble_eq_true rfl)) rfl ?_
  refine x_if_ne (pc := 5) dX9_runsOut_5 (t := 11) rfl (fun c3 => ?_) (fun c3 => ?_)
  · rw [if_neg c3] at h
    refine x_aload_n (pc := 11) dX9_runsOut_11 rfl rfl hl0 ?_
    obtain ⟨g15, h⟩ := bt h
    obtain ⟨M4, e5, h⟩ := ob h
    refine x_callV (av := []) (st := []) (pc := 12) dX9_runsOut_12 (E_X9_layTried (d := d + 4) e5) rfl (Nat.le_of_ble_eq_true rfl) zc_X9_layTried rfl zm_X9_319 zi_X9_layTried zs_X9_layTried (zac_ok g15) (by decide) rfl rfl (zst_ok rfl (Nat.le_of_ble_eq_true rfl)) rfl ?_
    refine x_aload_n (pc := 15) dX9_runsOut_15 rfl rfl hl0 ?_
    obtain ⟨v6, e7, h⟩ := ob h
    refine y_getI (pc := 16) dX9_runsOut_16 zf_X9_216 e7 (by decide) ?_
    refine x_iconst (pc := 19) dX9_runsOut_19 (v := 1) rfl ?_
    refine x_isub (pc := 20) dX9_runsOut_20 ?_
    refine x_aload_n (pc := 21) dX9_runsOut_21 rfl rfl hl0 ?_
    obtain ⟨g14, h⟩ := bt h
    obtain ⟨r8, e9, h⟩ := ob h
    refine x_callV (av := []) (st := [.int (v6 - 1)]) (pc := 22) dX9_runsOut_22 (E_X9_dayNow (d := d + 4) e9) rfl (Nat.le_of_ble_eq_true rfl) zc_X9_dayNow rfl zm_X9_232 zi_X9_dayNow zs_X9_dayNow (zac_ok g14) (by decide) rfl rfl (zst_ok rfl (Nat.le_of_ble_eq_true rfl)) rfl ?_
    refine x_isub (pc := 25) dX9_runsOut_25 ?_
    refine x_istore_n (pc := 26) dX9_runsOut_26 rfl (by decide) rfl ?_
    refine x_iconst (pc := 27) dX9_runsOut_27 (v := 0) rfl ?_
    refine x_istore_n (pc := 28) dX9_runsOut_28 rfl (by decide) rfl ?_
    refine ex_weak (Ls2 := [.ref l0, .int l1, .int ((v6 - 1) - r8), .int 0, .null]) ⟨Or.inr rfl, Or.inr rfl, Or.inr rfl, Or.inr rfl, Or.inl rfl, trivial⟩ ?_
    rcases obs h with ⟨r12, e10, h⟩ | ⟨M11, e10, h⟩
    · cases h
      exact LX_X9_runsOut_29 zN _ _ _ _ _ hl0 _ e10 (fun r q => by cases q; rfl) (by intros; contradiction)
    · refine LX_X9_runsOut_29 zN _ _ _ _ _ hl0 _ e10 (fun r q => by cases q) ?_
      intro u13 q
      cases q
      refine x_iconst (pc := 70) dX9_runsOut_70 (v := (-1)) rfl ?_
      obtain ⟨rfl, rfl⟩ := s2 h
      exact y_retI (pc := 71) dX9_runsOut_71 rfl
  · rw [if_pos c3] at h
    refine x_ldc (pc := 8) dX9_runsOut_8 zk_X9_238 ?_
    obtain ⟨rfl, rfl⟩ := s2 h
    exact y_retI (pc := 10) dX9_runsOut_10 rfl
def L_X9_willBe_34 : Nat → Nat → Int32 → Int32 → Int32 → zM → Option (Int32 × zM)
  | 0, _, _, _, _, _ => none
  | n + 1, l0, l1, l2, l3, M => if l1 ≤ l3 then (some (l2, M)) else ((oR M l0 9 58 1).bind fun v10 => bif zac M l0 9 58 then (b2 (f_X9_goOn l0 v10 M) fun r12 M13 => L_X9_willBe_34 n l0 l1 (l2 + r12) (l3 + 1) M13) else none)
def f_X9_willBe (l0 : Nat) (l1 : Int32) (M : zM) : Option (Int32 × zM) := bif Nat.ble 1 l0 then ((f_X9_in (Int32.toInt64 l1) 1 99 M).bind fun r1 => if r1 = 0 then (some ((-1000000002), M)) else ((oI M l0 9 58 5).bind fun v4 => if v4 = 0 then (some ((-1000000003), M)) else (bif zac M l0 9 58 then ((f_X9_layTried l0 M).bind fun M7 => b2 (L_X9_willBe_34 zN l0 l1 0 0 M7) fun v10 M11 => some (v10, M11)) else none))) else none
theorem LX_X9_willBe_34 {G : zG} {d : Nat} : ∀ (n : Nat) (l0 : Nat) (l1 : Int32) (l2 : Int32) (l3 : Int32) (M : zM) (hl0 : l0 ≠ 0) (o2 : Int32) (MX : zM) {res : Option Value × zM}, L_X9_willBe_34 n l0 l1 l2 l3 M = some (o2, MX) → Ex G (d + 5) yX9_willBe cX9_willBe 4 (some .int) 56 [.null, .null, .int o2, .null] [] MX res → Ex G (d + 5) yX9_willBe cX9_willBe 4 (some .int) 34 [.ref l0, .int l1, .int l2, .int l3] [] M res := by
  intro n
  induction n with
  | zero =>
    intro l0 l1 l2 l3 M hl0 o2 MX res h K
    simp [L_X9_willBe_34] at h
  | succ n ih =>
    intro l0 l1 l2 l3 M hl0 o2 MX res h K
    simp only [L_X9_willBe_34] at h
    refine x_iload_n (pc := 34) dX9_willBe_34 rfl rfl ?_
    refine x_iload_n (pc := 35) dX9_willBe_35 rfl rfl ?_
    refine x_icmp_ge (pc := 36) dX9_willBe_36 (t := 56) rfl (fun c9 => ?_) (fun c9 => ?_)
    · rw [if_pos c9] at h
      obtain ⟨rfl, rfl⟩ := s2 h
      refine ex_weak (Ls2 := [.null, .null, .int l2, .null]) ⟨Or.inl rfl, Or.inl rfl, Or.inr rfl, Or.inl rfl, trivial⟩ ?_
      exact K
    · rw [if_neg c9] at h
      refine x_iload_n (pc := 39) dX9_willBe_39 rfl rfl ?_
      refine x_aload_n (pc := 40) dX9_willBe_40 rfl rfl hl0 ?_
      refine x_aload_n (pc := 41) dX9_willBe_41 rfl rfl hl0 ?_
      obtain ⟨v10, e11, h⟩ := ob h
      refine y_getR (pc := 42) dX9_willBe_42 zf_X9_13 e11 ?_
      obtain ⟨g15, h⟩ := bt h
      obtain ⟨r12, M13, e14, h⟩ := ob2 h
      refine x_callV (av := [.ref v10]) (st := [.int l2]) (pc := 45) dX9_willBe_45 (E_X9_goOn (d := d) e14) rfl (Nat.le_of_ble_eq_true rfl) zc_X9_goOn rfl zm_X9_290 zi_X9_goOn zs_X9_goOn (zac_ok g15) (by decide) rfl rfl (zst_ok rfl (Nat.le_of_ble_eq_true rfl)) rfl ?_
      refine x_iadd (pc := 48) dX9_willBe_48 ?_
      refine x_istore_n (pc := 49) dX9_willBe_49 rfl (by decide) rfl ?_
      refine x_iinc (pc := 50) dX9_willBe_50 rfl rfl (by decide) rfl ?_
      refine x_goto (pc := 53) dX9_willBe_53 (t := 34) rfl ?_
      refine ex_weak (Ls2 := [.ref l0, .int l1, .int (l2 + r12), .int (l3 + 1)]) ⟨Or.inr rfl, Or.inr rfl, Or.inr rfl, Or.inr rfl, trivial⟩ ?_
      exact ih _ _ _ _ _ hl0 _ _ h K
theorem E_X9_willBe {G : zG} {d : Nat} {l0 : Nat} {l1 : Int32} {M MR : zM} {r : Int32} (h : f_X9_willBe l0 l1 M = some (r, MR)) : Ex G (d + 5) yX9_willBe cX9_willBe 4 (some .int) 0 (zent0 [.ref l0, .int l1] 4) [] M (some (.int r), MR) := by
  unfold f_X9_willBe at h
  obtain ⟨zz0, h⟩ := bt h
  have hl0 := bz zz0
  show Ex _ _ _ _ _ _ 0 [.ref l0, .int l1, .null, .null] [] _ _
  refine x_iload_n (pc := 0) dX9_willBe_0 rfl rfl ?_
  refine x_i2l (pc := 1) dX9_willBe_1 ?_
  refine x_lconst (pc := 2) dX9_willBe_2 (v := 1) rfl ?_
  refine x_ldc2 (pc := 3) dX9_willBe_3 zk_X9_294 ?_
  obtain ⟨r1, e2, h⟩ := ob h
  refine x_callS (av := [.long (Int32.toInt64 l1), .long 1, .long 99]) (st := []) (pc := 6) dX9_willBe_6 (E_X9_in (d := d + 4) e2) rfl (Nat.le_of_ble_eq_true rfl) zc_X9_in rfl zm_X9_120 zs_X9_in rfl (zst_ok rfl (Nat.le_of_ble_eq_true rfl)) rfl ?_
  refine x_if_ne (pc := 9) dX9_willBe_9 (t := 15) rfl (fun c3 => ?_) (fun c3 => ?_)
  · rw [if_neg c3] at h
    refine x_aload_n (pc := 15) dX9_willBe_15 rfl rfl hl0 ?_
    obtain ⟨v4, e5, h⟩ := ob h
    refine y_getI (pc := 16) dX9_willBe_16 zf_X9_216 e5 (by decide) ?_
    refine x_if_ne (pc := 19) dX9_willBe_19 (t := 26) rfl (fun c6 => ?_) (fun c6 => ?_)
    · rw [if_neg c6] at h
      refine x_aload_n (pc := 26) dX9_willBe_26 rfl rfl hl0 ?_
      obtain ⟨g12, h⟩ := bt h
      obtain ⟨M7, e8, h⟩ := ob h
      refine x_callV (av := []) (st := []) (pc := 27) dX9_willBe_27 (E_X9_layTried (d := d + 4) e8) rfl (Nat.le_of_ble_eq_true rfl) zc_X9_layTried rfl zm_X9_319 zi_X9_layTried zs_X9_layTried (zac_ok g12) (by decide) rfl rfl (zst_ok rfl (Nat.le_of_ble_eq_true rfl)) rfl ?_
      refine x_iconst (pc := 30) dX9_willBe_30 (v := 0) rfl ?_
      refine x_istore_n (pc := 31) dX9_willBe_31 rfl (by decide) rfl ?_
      refine x_iconst (pc := 32) dX9_willBe_32 (v := 0) rfl ?_
      refine x_istore_n (pc := 33) dX9_willBe_33 rfl (by decide) rfl ?_
      obtain ⟨v10, M11, e9, h⟩ := ob2 h
      refine ex_weak (Ls2 := [.ref l0, .int l1, .int 0, .int 0]) ⟨Or.inr rfl, Or.inr rfl, Or.inr rfl, Or.inr rfl, trivial⟩ ?_
      refine LX_X9_willBe_34 zN _ _ _ _ _ hl0 _ _ e9 ?_
      refine x_iload_n (pc := 56) dX9_willBe_56 rfl rfl ?_
      obtain ⟨rfl, rfl⟩ := s2 h
      exact y_retI (pc := 57) dX9_willBe_57 rfl
    · rw [if_pos c6] at h
      refine x_ldcw (pc := 22) dX9_willBe_22 zk_X9_286 ?_
      obtain ⟨rfl, rfl⟩ := s2 h
      exact y_retI (pc := 25) dX9_willBe_25 rfl
  · rw [if_pos c3] at h
    refine x_ldc (pc := 12) dX9_willBe_12 zk_X9_133 ?_
    obtain ⟨rfl, rfl⟩ := s2 h
    exact y_retI (pc := 14) dX9_willBe_14 rfl
def f_X9_wordsBy (l0 : Nat) (l1 : Int32) (l2 : Int32) (M : zM) : Option (Int32) := bif Nat.ble 1 l0 then ((oR M l0 9 58 36).bind fun v1 => (aI M v1 l1).bind fun v3 => bif zac M l0 9 58 then ((f_X9_wordOf l0 v3 M).bind fun r5 => if l2 = 1 then (some (1 <<< (r5 &&& 31))) else (if l2 = 2 then ((oR M l0 9 58 11).bind fun v9 => (aI M v9 (((2 * r5) + l2) - 2)).bind fun v11 => some v11) else (if l2 = 3 then ((oR M l0 9 58 11).bind fun v14 => (aI M v14 (((2 * r5) + l2) - 2)).bind fun v16 => some v16) else (some 0)))) else none) else none
theorem E_X9_wordsBy {G : zG} {d : Nat} {l0 : Nat} {l1 : Int32} {l2 : Int32} {M : zM} {r : Int32} (h : f_X9_wordsBy l0 l1 l2 M = some r) : Ex G (d + 1) yX9_wordsBy cX9_wordsBy 4 (some .int) 0 (zent0 [.ref l0, .int l1, .int l2] 4) [] M (some (.int r), M) := by
  unfold f_X9_wordsBy at h
  obtain ⟨zz0, h⟩ := bt h
  have hl0 := bz zz0
  show Ex _ _ _ _ _ _ 0 [.ref l0, .int l1, .int l2, .null] [] _ _
  refine x_aload_n (pc := 0) dX9_wordsBy_0 rfl rfl hl0 ?_
  refine x_aload_n (pc := 1) dX9_wordsBy_1 rfl rfl hl0 ?_
  obtain ⟨v1, e2, h⟩ := ob h
  refine y_getR (pc := 2) dX9_wordsBy_2 zf_X9_69 e2 ?_
  refine x_iload_n (pc := 5) dX9_wordsBy_5 rfl rfl ?_
  obtain ⟨v3, e4, h⟩ := ob h
  refine y_iald (pc := 6) dX9_wordsBy_6 e4 ?_
  obtain ⟨g18, h⟩ := bt h
  obtain ⟨r5, e6, h⟩ := ob h
  refine x_callV (av := [.int v3]) (st := []) (pc := 7) dX9_wordsBy_7 (E_X9_wordOf (d := d) e6) rfl (Nat.le_of_ble_eq_true rfl) zc_X9_wordOf rfl zm_X9_268 zi_X9_wordOf zs_X9_wordOf (zac_ok g18) (by decide) rfl rfl (zst_ok rfl (Nat.le_of_ble_eq_true rfl)) rfl ?_
  refine x_istore_n (pc := 10) dX9_wordsBy_10 rfl (by decide) rfl ?_
  refine x_iload_n (pc := 11) dX9_wordsBy_11 rfl rfl ?_
  refine x_iconst (pc := 12) dX9_wordsBy_12 (v := 1) rfl ?_
  refine x_icmp_ne (pc := 13) dX9_wordsBy_13 (t := 22) rfl (fun c7 => ?_) (fun c7 => ?_)
  · rw [if_neg c7] at h
    refine x_iload_n (pc := 22) dX9_wordsBy_22 rfl rfl ?_
    refine x_iconst (pc := 23) dX9_wordsBy_23 (v := 2) rfl ?_
    refine x_icmp_eq (pc := 24) dX9_wordsBy_24 (t := 32) rfl (fun c8 => ?_) (fun c8 => ?_)
    · rw [if_pos c8] at h
      refine x_aload_n (pc := 32) dX9_wordsBy_32 rfl rfl hl0 ?_
      obtain ⟨v9, e10, h⟩ := ob h
      refine y_getR (pc := 33) dX9_wordsBy_33 zf_X9_25 e10 ?_
      refine x_iconst (pc := 36) dX9_wordsBy_36 (v := 2) rfl ?_
      refine x_iload_n (pc := 37) dX9_wordsBy_37 rfl rfl ?_
      refine x_imul (pc := 38) dX9_wordsBy_38 ?_
      refine x_iload_n (pc := 39) dX9_wordsBy_39 rfl rfl ?_
      refine x_iadd (pc := 40) dX9_wordsBy_40 ?_
      refine x_iconst (pc := 41) dX9_wordsBy_41 (v := 2) rfl ?_
      refine x_isub (pc := 42) dX9_wordsBy_42 ?_
      obtain ⟨v11, e12, h⟩ := ob h
      refine y_iald (pc := 43) dX9_wordsBy_43 e12 ?_
      refine x_goto (pc := 44) dX9_wordsBy_44 (t := 48) rfl ?_
      obtain rfl := s1 h
      exact y_retI (pc := 48) dX9_wordsBy_48 rfl
    · rw [if_neg c8] at h
      refine x_iload_n (pc := 27) dX9_wordsBy_27 rfl rfl ?_
      refine x_iconst (pc := 28) dX9_wordsBy_28 (v := 3) rfl ?_
      refine x_icmp_ne (pc := 29) dX9_wordsBy_29 (t := 47) rfl (fun c13 => ?_) (fun c13 => ?_)
      · rw [if_neg c13] at h
        refine x_iconst (pc := 47) dX9_wordsBy_47 (v := 0) rfl ?_
        obtain rfl := s1 h
        exact y_retI (pc := 48) dX9_wordsBy_48 rfl
      · rw [if_pos c13] at h
        refine x_aload_n (pc := 32) dX9_wordsBy_32 rfl rfl hl0 ?_
        obtain ⟨v14, e15, h⟩ := ob h
        refine y_getR (pc := 33) dX9_wordsBy_33 zf_X9_25 e15 ?_
        refine x_iconst (pc := 36) dX9_wordsBy_36 (v := 2) rfl ?_
        refine x_iload_n (pc := 37) dX9_wordsBy_37 rfl rfl ?_
        refine x_imul (pc := 38) dX9_wordsBy_38 ?_
        refine x_iload_n (pc := 39) dX9_wordsBy_39 rfl rfl ?_
        refine x_iadd (pc := 40) dX9_wordsBy_40 ?_
        refine x_iconst (pc := 41) dX9_wordsBy_41 (v := 2) rfl ?_
        refine x_isub (pc := 42) dX9_wordsBy_42 ?_
        obtain ⟨v16, e17, h⟩ := ob h
        refine y_iald (pc := 43) dX9_wordsBy_43 e17 ?_
        refine x_goto (pc := 44) dX9_wordsBy_44 (t := 48) rfl ?_
        obtain rfl := s1 h
        exact y_retI (pc := 48) dX9_wordsBy_48 rfl
  · rw [if_pos c7] at h
    refine x_iconst (pc := 16) dX9_wordsBy_16 (v := 1) rfl ?_
    refine x_iload_n (pc := 17) dX9_wordsBy_17 rfl rfl ?_
    refine x_ishl (pc := 18) dX9_wordsBy_18 ?_
    refine x_goto (pc := 19) dX9_wordsBy_19 (t := 48) rfl ?_
    obtain rfl := s1 h
    exact y_retI (pc := 48) dX9_wordsBy_48 rfl
def L_X9_use_11 : Nat → Nat → Int32 → Int32 → Int32 → Int32 → Int32 → zM → Option (zM)
  | 0, _, _, _, _, _, _, _ => none
  | n + 1, l0, l1, l2, l3, l4, l5, M => if 8 ≤ l5 then (some M) else ((oR M l0 9 58 39).bind fun v4 => (aI M v4 l5).bind fun v6 => (f_X9_has l4 l5 M).bind fun r8 => if r8 = 0 then ((sI M v4 l5 (v6 + 0)).bind fun M11 => L_X9_use_11 n l0 l1 l2 l3 l4 (l5 + 1) M11) else ((sI M v4 l5 (v6 + l3)).bind fun M13 => L_X9_use_11 n l0 l1 l2 l3 l4 (l5 + 1) M13))
def f_X9_use (l0 : Nat) (l1 : Int32) (l2 : Int32) (l3 : Int32) (M : zM) : Option (zM) := bif Nat.ble 1 l0 then (bif zac M l0 9 58 then ((f_X9_wordsBy l0 l1 l2 M).bind fun r1 => (L_X9_use_11 zN l0 l1 l2 l3 r1 0 M).bind fun M4 => (oI M4 l0 9 58 42).bind fun v5 => (f_X9_bits r1 M4).bind fun r7 => (pI M4 l0 9 58 42 (v5 + (l3 * r7))).bind fun M9 => (oI M9 l0 9 58 41).bind fun v11 => if l2 = 0 then ((pI M9 l0 9 58 41 (v11 + 0)).bind fun M14 => some M14) else ((oR M9 l0 9 58 36).bind fun v16 => (aI M9 v16 l1).bind fun v18 => bif zac M9 l0 9 58 then ((f_X9_worthOf l0 v18 M9).bind fun r20 => (pI M9 l0 9 58 41 (v11 + (l3 * r20))).bind fun M22 => some M22) else none)) else none) else none
theorem LX_X9_use_11 {G : zG} {d : Nat} : ∀ (n : Nat) (l0 : Nat) (l1 : Int32) (l2 : Int32) (l3 : Int32) (l4 : Int32) (l5 : Int32) (M : zM) (hl0 : l0 ≠ 0) (MX : zM) {res : Option Value × zM}, L_X9_use_11 n l0 l1 l2 l3 l4 l5 M = some MX → Ex G (d + 2) yX9_use cX9_use 6 none 49 [.ref l0, .int l1, .int l2, .int l3, .int l4, .null] [] MX res → Ex G (d + 2) yX9_use cX9_use 6 none 11 [.ref l0, .int l1, .int l2, .int l3, .int l4, .int l5] [] M res := by
  intro n
  induction n with
  | zero =>
    intro l0 l1 l2 l3 l4 l5 M hl0 MX res h K
    simp [L_X9_use_11] at h
  | succ n ih =>
    intro l0 l1 l2 l3 l4 l5 M hl0 MX res h K
    simp only [L_X9_use_11] at h
    refine x_iload (pc := 11) dX9_use_11 rfl ?_
    refine x_bipush (pc := 13) dX9_use_13 (v := 8) (by decide) ?_
    refine x_icmp_ge (pc := 15) dX9_use_15 (t := 49) rfl (fun c3 => ?_) (fun c3 => ?_)
    · rw [if_pos c3] at h
      obtain rfl := s1 h
      refine ex_weak (Ls2 := [.ref l0, .int l1, .int l2, .int l3, .int l4, .null]) ⟨Or.inr rfl, Or.inr rfl, Or.inr rfl, Or.inr rfl, Or.inr rfl, Or.inl rfl, trivial⟩ ?_
      exact K
    · rw [if_neg c3] at h
      refine x_aload_n (pc := 18) dX9_use_18 rfl rfl hl0 ?_
      obtain ⟨v4, e5, h⟩ := ob h
      refine y_getR (pc := 19) dX9_use_19 zf_X9_78 e5 ?_
      refine x_iload (pc := 22) dX9_use_22 rfl ?_
      refine x_dup2 (pc := 24) dX9_use_24 rfl rv_cr ?_
      obtain ⟨v6, e7, h⟩ := ob h
      refine y_iald (pc := 25) dX9_use_25 e7 ?_
      refine x_iload (pc := 26) dX9_use_26 rfl ?_
      refine x_iload (pc := 28) dX9_use_28 rfl ?_
      obtain ⟨r8, e9, h⟩ := ob h
      refine x_callS (av := [.int l4, .int l5]) (st := [.int v6, .int l5, .ref v4]) (pc := 30) dX9_use_30 (E_X9_has (d := d + 1) e9) rfl (Nat.le_of_ble_eq_true rfl) zc_X9_has rfl zm_X9_178 zs_X9_has rfl (zst_ok rfl (Nat.le_of_ble_eq_true rfl)) rfl ?_
      refine x_if_eq (pc := 33) dX9_use_33 (t := 40) rfl (fun c10 => ?_) (fun c10 => ?_)
      · rw [if_pos c10] at h
        refine x_iconst (pc := 40) dX9_use_40 (v := 0) rfl ?_
        refine x_iadd (pc := 41) dX9_use_41 ?_
        obtain ⟨M11, e12, h⟩ := ob h
        refine y_iast (pc := 42) dX9_use_42 e12 ?_
        refine x_iinc (pc := 43) dX9_use_43 rfl rfl (by decide) rfl ?_
        refine x_goto (pc := 46) dX9_use_46 (t := 11) rfl ?_
        refine ex_weak (Ls2 := [.ref l0, .int l1, .int l2, .int l3, .int l4, .int (l5 + 1)]) ⟨Or.inr rfl, Or.inr rfl, Or.inr rfl, Or.inr rfl, Or.inr rfl, Or.inr rfl, trivial⟩ ?_
        exact ih _ _ _ _ _ _ _ hl0  _ h K
      · rw [if_neg c10] at h
        refine x_iload_n (pc := 36) dX9_use_36 rfl rfl ?_
        refine x_goto (pc := 37) dX9_use_37 (t := 41) rfl ?_
        refine x_iadd (pc := 41) dX9_use_41 ?_
        obtain ⟨M13, e14, h⟩ := ob h
        refine y_iast (pc := 42) dX9_use_42 e14 ?_
        refine x_iinc (pc := 43) dX9_use_43 rfl rfl (by decide) rfl ?_
        refine x_goto (pc := 46) dX9_use_46 (t := 11) rfl ?_
        refine ex_weak (Ls2 := [.ref l0, .int l1, .int l2, .int l3, .int l4, .int (l5 + 1)]) ⟨Or.inr rfl, Or.inr rfl, Or.inr rfl, Or.inr rfl, Or.inr rfl, Or.inr rfl, trivial⟩ ?_
        exact ih _ _ _ _ _ _ _ hl0  _ h K
theorem E_X9_use {G : zG} {d : Nat} {l0 : Nat} {l1 : Int32} {l2 : Int32} {l3 : Int32} {M MR : zM} (h : f_X9_use l0 l1 l2 l3 M = some MR) : Ex G (d + 2) yX9_use cX9_use 6 none 0 (zent0 [.ref l0, .int l1, .int l2, .int l3] 6) [] M (none, MR) := by
  unfold f_X9_use at h
  obtain ⟨zz0, h⟩ := bt h
  have hl0 := bz zz0
  show Ex _ _ _ _ _ _ 0 [.ref l0, .int l1, .int l2, .int l3, .null, .null] [] _ _
  refine x_aload_n (pc := 0) dX9_use_0 rfl rfl hl0 ?_
  refine x_iload_n (pc := 1) dX9_use_1 rfl rfl ?_
  refine x_iload_n (pc := 2) dX9_use_2 rfl rfl ?_
  obtain ⟨g25, h⟩ := bt h
  obtain ⟨r1, e2, h⟩ := ob h
  refine x_callV (av := [.int l1, .int l2]) (st := []) (pc := 3) dX9_use_3 (E_X9_wordsBy (d := d) e2) rfl (Nat.le_of_ble_eq_true rfl) zc_X9_wordsBy rfl zm_X9_322 zi_X9_wordsBy zs_X9_wordsBy (zac_ok g25) (by decide) rfl rfl (zst_ok rfl (Nat.le_of_ble_eq_true rfl)) rfl ?_
  refine x_istore (pc := 6) dX9_use_6 (by decide) rfl ?_
  refine x_iconst (pc := 8) dX9_use_8 (v := 0) rfl ?_
  refine x_istore (pc := 9) dX9_use_9 (by decide) rfl ?_
  obtain ⟨M4, e3, h⟩ := ob h
  refine ex_weak (Ls2 := [.ref l0, .int l1, .int l2, .int l3, .int r1, .int 0]) ⟨Or.inr rfl, Or.inr rfl, Or.inr rfl, Or.inr rfl, Or.inr rfl, Or.inr rfl, trivial⟩ ?_
  refine LX_X9_use_11 zN _ _ _ _ _ _ _ hl0 _ e3 ?_
  refine x_aload_n (pc := 49) dX9_use_49 rfl rfl hl0 ?_
  refine x_dup (pc := 50) dX9_use_50 rv_cr ?_
  obtain ⟨v5, e6, h⟩ := ob h
  refine y_getI (pc := 51) dX9_use_51 zf_X9_325 e6 (by decide) ?_
  refine x_iload_n (pc := 54) dX9_use_54 rfl rfl ?_
  refine x_iload (pc := 55) dX9_use_55 rfl ?_
  obtain ⟨r7, e8, h⟩ := ob h
  refine x_callS (av := [.int r1]) (st := [.int l3, .int v5, .ref l0]) (pc := 57) dX9_use_57 (E_X9_bits (d := d + 1) e8) rfl (Nat.le_of_ble_eq_true rfl) zc_X9_bits rfl zm_X9_328 zs_X9_bits rfl (zst_ok rfl (Nat.le_of_ble_eq_true rfl)) rfl ?_
  refine x_imul (pc := 60) dX9_use_60 ?_
  refine x_iadd (pc := 61) dX9_use_61 ?_
  obtain ⟨M9, e10, h⟩ := ob h
  refine y_putI (pc := 62) dX9_use_62 zf_X9_325 e10 ?_
  refine x_aload_n (pc := 65) dX9_use_65 rfl rfl hl0 ?_
  refine x_dup (pc := 66) dX9_use_66 rv_cr ?_
  obtain ⟨v11, e12, h⟩ := ob h
  refine y_getI (pc := 67) dX9_use_67 zf_X9_331 e12 (by decide) ?_
  refine x_iload_n (pc := 70) dX9_use_70 rfl rfl ?_
  refine x_if_ne (pc := 71) dX9_use_71 (t := 78) rfl (fun c13 => ?_) (fun c13 => ?_)
  · rw [if_neg c13] at h
    refine x_iload_n (pc := 78) dX9_use_78 rfl rfl ?_
    refine x_aload_n (pc := 79) dX9_use_79 rfl rfl hl0 ?_
    refine x_aload_n (pc := 80) dX9_use_80 rfl rfl hl0 ?_
    obtain ⟨v16, e17, h⟩ := ob h
    refine y_getR (pc := 81) dX9_use_81 zf_X9_69 e17 ?_
    refine x_iload_n (pc := 84) dX9_use_84 rfl rfl ?_
    obtain ⟨v18, e19, h⟩ := ob h
    refine y_iald (pc := 85) dX9_use_85 e19 ?_
    obtain ⟨g24, h⟩ := bt h
    obtain ⟨r20, e21, h⟩ := ob h
    refine x_callV (av := [.int v18]) (st := [.int l3, .int v11, .ref l0]) (pc := 86) dX9_use_86 (E_X9_worthOf (d := d + 1) e21) rfl (Nat.le_of_ble_eq_true rfl) zc_X9_worthOf rfl zm_X9_281 zi_X9_worthOf zs_X9_worthOf (zac_ok g24) (by decide) rfl rfl (zst_ok rfl (Nat.le_of_ble_eq_true rfl)) rfl ?_
    refine x_imul (pc := 89) dX9_use_89 ?_
    refine x_iadd (pc := 90) dX9_use_90 ?_
    obtain ⟨M22, e23, h⟩ := ob h
    refine y_putI (pc := 91) dX9_use_91 zf_X9_331 e23 ?_
    obtain rfl := s1 h
    exact x_vret (pc := 94) dX9_use_94 rfl
  · rw [if_pos c13] at h
    refine x_iconst (pc := 74) dX9_use_74 (v := 0) rfl ?_
    refine x_goto (pc := 75) dX9_use_75 (t := 90) rfl ?_
    refine x_iadd (pc := 90) dX9_use_90 ?_
    obtain ⟨M14, e15, h⟩ := ob h
    refine y_putI (pc := 91) dX9_use_91 zf_X9_331 e15 ?_
    obtain rfl := s1 h
    exact x_vret (pc := 94) dX9_use_94 rfl
def L_X9_fits_51 : Nat → Nat → Int32 → Int32 → Int32 → zM → Option (Int32)
  | 0, _, _, _, _, _ => none
  | n + 1, l0, l3, l4, l5, M => if 8 ≤ l5 then (some l4) else (if l4 = 0 then (L_X9_fits_51 n l0 l3 0 (l5 + 1) M) else ((f_X9_has l3 l5 M).bind fun r6 => if r6 = 0 then (L_X9_fits_51 n l0 l3 1 (l5 + 1) M) else ((oR M l0 9 58 39).bind fun v9 => (aI M v9 l5).bind fun v11 => (oR M l0 9 58 40).bind fun v13 => (aI M v13 l5).bind fun v15 => if v15 ≤ v11 then (L_X9_fits_51 n l0 l3 0 (l5 + 1) M) else (L_X9_fits_51 n l0 l3 1 (l5 + 1) M))))
def f_X9_fits (l0 : Nat) (l1 : Int32) (l2 : Int32) (M : zM) : Option (Int32) := bif Nat.ble 1 l0 then (bif zac M l0 9 58 then ((f_X9_wordsBy l0 l1 l2 M).bind fun r1 => if l2 = 0 then ((L_X9_fits_51 zN l0 r1 1 0 M).bind fun v5 => (zb v5).bind fun v6 => some v6) else (if l2 = 4 then ((oR M l0 9 58 12).bind fun v9 => (oR M l0 9 58 36).bind fun v11 => (aI M v11 l1).bind fun v13 => bif zac M l0 9 58 then ((f_X9_wordOf l0 v13 M).bind fun r15 => (aZ M v9 r15).bind fun v17 => if v17 = 0 then ((L_X9_fits_51 zN l0 r1 0 0 M).bind fun v21 => (zb v21).bind fun v22 => some v22) else ((L_X9_fits_51 zN l0 r1 1 0 M).bind fun v25 => (zb v25).bind fun v26 => some v26)) else none) else (if r1 = 0 then ((L_X9_fits_51 zN l0 r1 0 0 M).bind fun v31 => (zb v31).bind fun v32 => some v32) else ((L_X9_fits_51 zN l0 r1 1 0 M).bind fun v35 => (zb v35).bind fun v36 => some v36)))) else none) else none
theorem LX_X9_fits_51 {G : zG} {d : Nat} : ∀ (n : Nat) (l0 : Nat) (l3 : Int32) (l4 : Int32) (l5 : Int32) (M : zM) (hl0 : l0 ≠ 0) (o4 : Int32) {res : Option Value × zM}, L_X9_fits_51 n l0 l3 l4 l5 M = some o4 → Ex G (d + 2) yX9_fits cX9_fits 6 (some .boolean) 102 [.null, .null, .null, .null, .int o4, .null] [] M res → Ex G (d + 2) yX9_fits cX9_fits 6 (some .boolean) 51 [.ref l0, .null, .null, .int l3, .int l4, .int l5] [] M res := by
  intro n
  induction n with
  | zero =>
    intro l0 l3 l4 l5 M hl0 o4 res h K
    simp [L_X9_fits_51] at h
  | succ n ih =>
    intro l0 l3 l4 l5 M hl0 o4 res h K
    simp only [L_X9_fits_51] at h
    refine x_iload (pc := 51) dX9_fits_51 rfl ?_
    refine x_bipush (pc := 53) dX9_fits_53 (v := 8) (by decide) ?_
    refine x_icmp_ge (pc := 55) dX9_fits_55 (t := 102) rfl (fun c4 => ?_) (fun c4 => ?_)
    · rw [if_pos c4] at h
      obtain rfl := s1 h
      refine ex_weak (Ls2 := [.null, .null, .null, .null, .int l4, .null]) ⟨Or.inl rfl, Or.inl rfl, Or.inl rfl, Or.inl rfl, Or.inr rfl, Or.inl rfl, trivial⟩ ?_
      exact K
    · rw [if_neg c4] at h
      refine x_iload (pc := 58) dX9_fits_58 rfl ?_
      refine x_if_eq (pc := 60) dX9_fits_60 (t := 93) rfl (fun c5 => ?_) (fun c5 => ?_)
      · rw [if_pos c5] at h
        refine x_iconst (pc := 93) dX9_fits_93 (v := 0) rfl ?_
        refine x_istore (pc := 94) dX9_fits_94 (by decide) rfl ?_
        refine x_iinc (pc := 96) dX9_fits_96 rfl rfl (by decide) rfl ?_
        refine x_goto (pc := 99) dX9_fits_99 (t := 51) rfl ?_
        refine ex_weak (Ls2 := [.ref l0, .null, .null, .int l3, .int 0, .int (l5 + 1)]) ⟨Or.inr rfl, Or.inl rfl, Or.inl rfl, Or.inr rfl, Or.inr rfl, Or.inr rfl, trivial⟩ ?_
        exact ih _ _ _ _ _ hl0 _ h K
      · rw [if_neg c5] at h
        refine x_iload_n (pc := 63) dX9_fits_63 rfl rfl ?_
        refine x_iload (pc := 64) dX9_fits_64 rfl ?_
        obtain ⟨r6, e7, h⟩ := ob h
        refine x_callS (av := [.int l3, .int l5]) (st := []) (pc := 66) dX9_fits_66 (E_X9_has (d := d + 1) e7) rfl (Nat.le_of_ble_eq_true rfl) zc_X9_has rfl zm_X9_178 zs_X9_has rfl (zst_ok rfl (Nat.le_of_ble_eq_true rfl)) rfl ?_
        refine x_if_eq (pc := 69) dX9_fits_69 (t := 89) rfl (fun c8 => ?_) (fun c8 => ?_)
        · rw [if_pos c8] at h
          refine x_iconst (pc := 89) dX9_fits_89 (v := 1) rfl ?_
          refine x_goto (pc := 90) dX9_fits_90 (t := 94) rfl ?_
          refine x_istore (pc := 94) dX9_fits_94 (by decide) rfl ?_
          refine x_iinc (pc := 96) dX9_fits_96 rfl rfl (by decide) rfl ?_
          refine x_goto (pc := 99) dX9_fits_99 (t := 51) rfl ?_
          refine ex_weak (Ls2 := [.ref l0, .null, .null, .int l3, .int 1, .int (l5 + 1)]) ⟨Or.inr rfl, Or.inl rfl, Or.inl rfl, Or.inr rfl, Or.inr rfl, Or.inr rfl, trivial⟩ ?_
          exact ih _ _ _ _ _ hl0 _ h K
        · rw [if_neg c8] at h
          refine x_aload_n (pc := 72) dX9_fits_72 rfl rfl hl0 ?_
          obtain ⟨v9, e10, h⟩ := ob h
          refine y_getR (pc := 73) dX9_fits_73 zf_X9_78 e10 ?_
          refine x_iload (pc := 76) dX9_fits_76 rfl ?_
          obtain ⟨v11, e12, h⟩ := ob h
          refine y_iald (pc := 78) dX9_fits_78 e12 ?_
          refine x_aload_n (pc := 79) dX9_fits_79 rfl rfl hl0 ?_
          obtain ⟨v13, e14, h⟩ := ob h
          refine y_getR (pc := 80) dX9_fits_80 zf_X9_81 e14 ?_
          refine x_iload (pc := 83) dX9_fits_83 rfl ?_
          obtain ⟨v15, e16, h⟩ := ob h
          refine y_iald (pc := 85) dX9_fits_85 e16 ?_
          refine x_icmp_ge (pc := 86) dX9_fits_86 (t := 93) rfl (fun c17 => ?_) (fun c17 => ?_)
          · rw [if_pos c17] at h
            refine x_iconst (pc := 93) dX9_fits_93 (v := 0) rfl ?_
            refine x_istore (pc := 94) dX9_fits_94 (by decide) rfl ?_
            refine x_iinc (pc := 96) dX9_fits_96 rfl rfl (by decide) rfl ?_
            refine x_goto (pc := 99) dX9_fits_99 (t := 51) rfl ?_
            refine ex_weak (Ls2 := [.ref l0, .null, .null, .int l3, .int 0, .int (l5 + 1)]) ⟨Or.inr rfl, Or.inl rfl, Or.inl rfl, Or.inr rfl, Or.inr rfl, Or.inr rfl, trivial⟩ ?_
            exact ih _ _ _ _ _ hl0 _ h K
          · rw [if_neg c17] at h
            refine x_iconst (pc := 89) dX9_fits_89 (v := 1) rfl ?_
            refine x_goto (pc := 90) dX9_fits_90 (t := 94) rfl ?_
            refine x_istore (pc := 94) dX9_fits_94 (by decide) rfl ?_
            refine x_iinc (pc := 96) dX9_fits_96 rfl rfl (by decide) rfl ?_
            refine x_goto (pc := 99) dX9_fits_99 (t := 51) rfl ?_
            refine ex_weak (Ls2 := [.ref l0, .null, .null, .int l3, .int 1, .int (l5 + 1)]) ⟨Or.inr rfl, Or.inl rfl, Or.inl rfl, Or.inr rfl, Or.inr rfl, Or.inr rfl, trivial⟩ ?_
            exact ih _ _ _ _ _ hl0 _ h K
theorem E_X9_fits {G : zG} {d : Nat} {l0 : Nat} {l1 : Int32} {l2 : Int32} {M : zM} {r : Int32} (h : f_X9_fits l0 l1 l2 M = some r) : Ex G (d + 2) yX9_fits cX9_fits 6 (some .boolean) 0 (zent0 [.ref l0, .int l1, .int l2] 6) [] M (some (.int r), M) := by
  unfold f_X9_fits at h
  obtain ⟨zz0, h⟩ := bt h
  have hl0 := bz zz0
  show Ex _ _ _ _ _ _ 0 [.ref l0, .int l1, .int l2, .null, .null, .null] [] _ _
  refine x_aload_n (pc := 0) dX9_fits_0 rfl rfl hl0 ?_
  refine x_iload_n (pc := 1) dX9_fits_1 rfl rfl ?_
  refine x_iload_n (pc := 2) dX9_fits_2 rfl rfl ?_
  obtain ⟨g38, h⟩ := bt h
  obtain ⟨r1, e2, h⟩ := ob h
  refine x_callV (av := [.int l1, .int l2]) (st := []) (pc := 3) dX9_fits_3 (E_X9_wordsBy (d := d) e2) rfl (Nat.le_of_ble_eq_true rfl) zc_X9_wordsBy rfl zm_X9_322 zi_X9_wordsBy zs_X9_wordsBy (zac_ok g38) (by decide) rfl rfl (zst_ok rfl (Nat.le_of_ble_eq_true rfl)) rfl ?_
  refine x_istore_n (pc := 6) dX9_fits_6 rfl (by decide) rfl ?_
  refine x_iload_n (pc := 7) dX9_fits_7 rfl rfl ?_
  refine x_if_eq (pc := 8) dX9_fits_8 (t := 41) rfl (fun c3 => ?_) (fun c3 => ?_)
  · rw [if_pos c3] at h
    refine x_iconst (pc := 41) dX9_fits_41 (v := 1) rfl ?_
    refine x_goto (pc := 42) dX9_fits_42 (t := 46) rfl ?_
    refine x_istore (pc := 46) dX9_fits_46 (by decide) rfl ?_
    refine x_iconst (pc := 48) dX9_fits_48 (v := 0) rfl ?_
    refine x_istore (pc := 49) dX9_fits_49 (by decide) rfl ?_
    obtain ⟨v5, e4, h⟩ := ob h
    refine ex_weak (Ls2 := [.ref l0, .null, .null, .int r1, .int 1, .int 0]) ⟨Or.inr rfl, Or.inl rfl, Or.inl rfl, Or.inr rfl, Or.inr rfl, Or.inr rfl, trivial⟩ ?_
    refine LX_X9_fits_51 zN _ _ _ _ _ hl0 _ e4 ?_
    refine x_iload (pc := 102) dX9_fits_102 rfl ?_
    obtain ⟨v6, e7, h⟩ := ob h
    obtain rfl := s1 h
    exact y_retZ (pc := 104) dX9_fits_104 rfl e7
  · rw [if_neg c3] at h
    refine x_iload_n (pc := 11) dX9_fits_11 rfl rfl ?_
    refine x_iconst (pc := 12) dX9_fits_12 (v := 4) rfl ?_
    refine x_icmp_ne (pc := 13) dX9_fits_13 (t := 37) rfl (fun c8 => ?_) (fun c8 => ?_)
    · rw [if_neg c8] at h
      refine x_iload_n (pc := 37) dX9_fits_37 rfl rfl ?_
      refine x_if_eq (pc := 38) dX9_fits_38 (t := 45) rfl (fun c29 => ?_) (fun c29 => ?_)
      · rw [if_pos c29] at h
        refine x_iconst (pc := 45) dX9_fits_45 (v := 0) rfl ?_
        refine x_istore (pc := 46) dX9_fits_46 (by decide) rfl ?_
        refine x_iconst (pc := 48) dX9_fits_48 (v := 0) rfl ?_
        refine x_istore (pc := 49) dX9_fits_49 (by decide) rfl ?_
        obtain ⟨v31, e30, h⟩ := ob h
        refine ex_weak (Ls2 := [.ref l0, .null, .null, .int r1, .int 0, .int 0]) ⟨Or.inr rfl, Or.inl rfl, Or.inl rfl, Or.inr rfl, Or.inr rfl, Or.inr rfl, trivial⟩ ?_
        refine LX_X9_fits_51 zN _ _ _ _ _ hl0 _ e30 ?_
        refine x_iload (pc := 102) dX9_fits_102 rfl ?_
        obtain ⟨v32, e33, h⟩ := ob h
        obtain rfl := s1 h
        exact y_retZ (pc := 104) dX9_fits_104 rfl e33
      · rw [if_neg c29] at h
        refine x_iconst (pc := 41) dX9_fits_41 (v := 1) rfl ?_
        refine x_goto (pc := 42) dX9_fits_42 (t := 46) rfl ?_
        refine x_istore (pc := 46) dX9_fits_46 (by decide) rfl ?_
        refine x_iconst (pc := 48) dX9_fits_48 (v := 0) rfl ?_
        refine x_istore (pc := 49) dX9_fits_49 (by decide) rfl ?_
        obtain ⟨v35, e34, h⟩ := ob h
        refine ex_weak (Ls2 := [.ref l0, .null, .null, .int r1, .int 1, .int 0]) ⟨Or.inr rfl, Or.inl rfl, Or.inl rfl, Or.inr rfl, Or.inr rfl, Or.inr rfl, trivial⟩ ?_
        refine LX_X9_fits_51 zN _ _ _ _ _ hl0 _ e34 ?_
        refine x_iload (pc := 102) dX9_fits_102 rfl ?_
        obtain ⟨v36, e37, h⟩ := ob h
        obtain rfl := s1 h
        exact y_retZ (pc := 104) dX9_fits_104 rfl e37
    · rw [if_pos c8] at h
      refine x_aload_n (pc := 16) dX9_fits_16 rfl rfl hl0 ?_
      obtain ⟨v9, e10, h⟩ := ob h
      refine y_getR (pc := 17) dX9_fits_17 zf_X9_28 e10 ?_
      refine x_aload_n (pc := 20) dX9_fits_20 rfl rfl hl0 ?_
      refine x_aload_n (pc := 21) dX9_fits_21 rfl rfl hl0 ?_
      obtain ⟨v11, e12, h⟩ := ob h
      refine y_getR (pc := 22) dX9_fits_22 zf_X9_69 e12 ?_
      refine x_iload_n (pc := 25) dX9_fits_25 rfl rfl ?_
      obtain ⟨v13, e14, h⟩ := ob h
      refine y_iald (pc := 26) dX9_fits_26 e14 ?_
      obtain ⟨g28, h⟩ := bt h
      obtain ⟨r15, e16, h⟩ := ob h
      refine x_callV (av := [.int v13]) (st := [.ref v9]) (pc := 27) dX9_fits_27 (E_X9_wordOf (d := d + 1) e16) rfl (Nat.le_of_ble_eq_true rfl) zc_X9_wordOf rfl zm_X9_268 zi_X9_wordOf zs_X9_wordOf (zac_ok g28) (by decide) rfl rfl (zst_ok rfl (Nat.le_of_ble_eq_true rfl)) rfl ?_
      obtain ⟨v17, e18, h⟩ := ob h
      refine y_zald (pc := 30) dX9_fits_30 e18 ?_
      refine x_if_eq (pc := 31) dX9_fits_31 (t := 45) rfl (fun c19 => ?_) (fun c19 => ?_)
      · rw [if_pos c19] at h
        refine x_iconst (pc := 45) dX9_fits_45 (v := 0) rfl ?_
        refine x_istore (pc := 46) dX9_fits_46 (by decide) rfl ?_
        refine x_iconst (pc := 48) dX9_fits_48 (v := 0) rfl ?_
        refine x_istore (pc := 49) dX9_fits_49 (by decide) rfl ?_
        obtain ⟨v21, e20, h⟩ := ob h
        refine ex_weak (Ls2 := [.ref l0, .null, .null, .int r1, .int 0, .int 0]) ⟨Or.inr rfl, Or.inl rfl, Or.inl rfl, Or.inr rfl, Or.inr rfl, Or.inr rfl, trivial⟩ ?_
        refine LX_X9_fits_51 zN _ _ _ _ _ hl0 _ e20 ?_
        refine x_iload (pc := 102) dX9_fits_102 rfl ?_
        obtain ⟨v22, e23, h⟩ := ob h
        obtain rfl := s1 h
        exact y_retZ (pc := 104) dX9_fits_104 rfl e23
      · rw [if_neg c19] at h
        refine x_goto (pc := 34) dX9_fits_34 (t := 41) rfl ?_
        refine x_iconst (pc := 41) dX9_fits_41 (v := 1) rfl ?_
        refine x_goto (pc := 42) dX9_fits_42 (t := 46) rfl ?_
        refine x_istore (pc := 46) dX9_fits_46 (by decide) rfl ?_
        refine x_iconst (pc := 48) dX9_fits_48 (v := 0) rfl ?_
        refine x_istore (pc := 49) dX9_fits_49 (by decide) rfl ?_
        obtain ⟨v25, e24, h⟩ := ob h
        refine ex_weak (Ls2 := [.ref l0, .null, .null, .int r1, .int 1, .int 0]) ⟨Or.inr rfl, Or.inl rfl, Or.inl rfl, Or.inr rfl, Or.inr rfl, Or.inr rfl, trivial⟩ ?_
        refine LX_X9_fits_51 zN _ _ _ _ _ hl0 _ e24 ?_
        refine x_iload (pc := 102) dX9_fits_102 rfl ?_
        obtain ⟨v26, e27, h⟩ := ob h
        obtain rfl := s1 h
        exact y_retZ (pc := 104) dX9_fits_104 rfl e27
def L_X9_nextPick_9 : Nat → Nat → Int32 → Int32 → zM → Option ((Int32 × zM) ⊕ (zM))
  | 0, _, _, _, _ => none
  | n + 1, l0, l1, l2, M => if 5 ≤ l2 then (some (.inr M)) else (bif zac M l0 9 58 then ((f_X9_fits l0 l1 l2 M).bind fun r6 => if r6 = 0 then (L_X9_nextPick_9 n l0 l1 (l2 + 1) M) else (bif zac M l0 9 58 then ((f_X9_use l0 l1 l2 1 M).bind fun M9 => some (.inl (l2, M9))) else none)) else none)
def f_X9_nextPick (l0 : Nat) (l1 : Int32) (M : zM) : Option (Int32 × zM) := bif Nat.ble 1 l0 then ((oR M l0 9 58 38).bind fun v1 => (aI M v1 l1).bind fun v3 => bs (L_X9_nextPick_9 zN l0 l1 (v3 + 1) M) some (fun M6 => some (5, M6))) else none
theorem LX_X9_nextPick_9 {G : zG} {d : Nat} : ∀ (n : Nat) (l0 : Nat) (l1 : Int32) (l2 : Int32) (M : zM) (hl0 : l0 ≠ 0) (e : (Int32 × zM) ⊕ (zM)) {res : Option Value × zM}, L_X9_nextPick_9 n l0 l1 l2 M = some e → (∀ r, e = .inl r → res = (some (.int r.1), r.2)) → (∀ (MX : zM), e = .inr MX → Ex G (d + 3) yX9_nextPick cX9_nextPick 3 (some .int) 38 [.null, .null, .null] [] MX res) → Ex G (d + 3) yX9_nextPick cX9_nextPick 3 (some .int) 9 [.ref l0, .int l1, .int l2] [] M res := by
  intro n
  induction n with
  | zero =>
    intro l0 l1 l2 M hl0 e res h K1 K2
    simp [L_X9_nextPick_9] at h
  | succ n ih =>
    intro l0 l1 l2 M hl0 e res h K1 K2
    simp only [L_X9_nextPick_9] at h
    refine x_iload_n (pc := 9) dX9_nextPick_9 rfl rfl ?_
    refine x_iconst (pc := 10) dX9_nextPick_10 (v := 5) rfl ?_
    refine x_icmp_ge (pc := 11) dX9_nextPick_11 (t := 38) rfl (fun c5 => ?_) (fun c5 => ?_)
    · rw [if_pos c5] at h
      obtain rfl := s1 h
      refine ex_weak (Ls2 := [.null, .null, .null]) ⟨Or.inl rfl, Or.inl rfl, Or.inl rfl, trivial⟩ ?_
      exact K2 _ rfl
    · rw [if_neg c5] at h
      refine x_aload_n (pc := 14) dX9_nextPick_14 rfl rfl hl0 ?_
      refine x_iload_n (pc := 15) dX9_nextPick_15 rfl rfl ?_
      refine x_iload_n (pc := 16) dX9_nextPick_16 rfl rfl ?_
      obtain ⟨g12, h⟩ := bt h
      obtain ⟨r6, e7, h⟩ := ob h
      refine x_callV (av := [.int l1, .int l2]) (st := []) (pc := 17) dX9_nextPick_17 (E_X9_fits (d := d) e7) rfl (Nat.le_of_ble_eq_true rfl) zc_X9_fits rfl zm_X9_334 zi_X9_fits zs_X9_fits (zac_ok g12) (by decide) rfl rfl (zst_ok rfl (Nat.le_of_ble_eq_true rfl)) rfl ?_
      refine x_if_eq (pc := 20) dX9_nextPick_20 (t := 32) rfl (fun c8 => ?_) (fun c8 => ?_)
      · rw [if_pos c8] at h
        refine x_iinc (pc := 32) dX9_nextPick_32 rfl rfl (by decide) rfl ?_
        refine x_goto (pc := 35) dX9_nextPick_35 (t := 9) rfl ?_
        refine ex_weak (Ls2 := [.ref l0, .int l1, .int (l2 + 1)]) ⟨Or.inr rfl, Or.inr rfl, Or.inr rfl, trivial⟩ ?_
        exact ih _ _ _ _ hl0 _ h K1 K2
      · rw [if_neg c8] at h
        refine x_aload_n (pc := 23) dX9_nextPick_23 rfl rfl hl0 ?_
        refine x_iload_n (pc := 24) dX9_nextPick_24 rfl rfl ?_
        refine x_iload_n (pc := 25) dX9_nextPick_25 rfl rfl ?_
        refine x_iconst (pc := 26) dX9_nextPick_26 (v := 1) rfl ?_
        obtain ⟨g11, h⟩ := bt h
        obtain ⟨M9, e10, h⟩ := ob h
        refine x_callV (av := [.int l1, .int l2, .int 1]) (st := []) (pc := 27) dX9_nextPick_27 (E_X9_use (d := d) e10) rfl (Nat.le_of_ble_eq_true rfl) zc_X9_use rfl zm_X9_337 zi_X9_use zs_X9_use (zac_ok g11) (by decide) rfl rfl (zst_ok rfl (Nat.le_of_ble_eq_true rfl)) rfl ?_
        refine x_iload_n (pc := 30) dX9_nextPick_30 rfl rfl ?_
        obtain rfl := s1 h
        rw [K1 _ rfl]
        exact y_retI (pc := 31) dX9_nextPick_31 rfl
theorem E_X9_nextPick {G : zG} {d : Nat} {l0 : Nat} {l1 : Int32} {M MR : zM} {r : Int32} (h : f_X9_nextPick l0 l1 M = some (r, MR)) : Ex G (d + 3) yX9_nextPick cX9_nextPick 3 (some .int) 0 (zent0 [.ref l0, .int l1] 3) [] M (some (.int r), MR) := by
  unfold f_X9_nextPick at h
  obtain ⟨zz0, h⟩ := bt h
  have hl0 := bz zz0
  show Ex _ _ _ _ _ _ 0 [.ref l0, .int l1, .null] [] _ _
  refine x_aload_n (pc := 0) dX9_nextPick_0 rfl rfl hl0 ?_
  obtain ⟨v1, e2, h⟩ := ob h
  refine y_getR (pc := 1) dX9_nextPick_1 zf_X9_75 e2 ?_
  refine x_iload_n (pc := 4) dX9_nextPick_4 rfl rfl ?_
  obtain ⟨v3, e4, h⟩ := ob h
  refine y_iald (pc := 5) dX9_nextPick_5 e4 ?_
  refine x_iconst (pc := 6) dX9_nextPick_6 (v := 1) rfl ?_
  refine x_iadd (pc := 7) dX9_nextPick_7 ?_
  refine x_istore_n (pc := 8) dX9_nextPick_8 rfl (by decide) rfl ?_
  refine ex_weak (Ls2 := [.ref l0, .int l1, .int (v3 + 1)]) ⟨Or.inr rfl, Or.inr rfl, Or.inr rfl, trivial⟩ ?_
  rcases obs h with ⟨r7, e5, h⟩ | ⟨M6, e5, h⟩
  · cases h
    exact LX_X9_nextPick_9 zN _ _ _ _ hl0 _ e5 (fun r q => by cases q; rfl) (by intros; contradiction)
  · refine LX_X9_nextPick_9 zN _ _ _ _ hl0 _ e5 (fun r q => by cases q) ?_
    intro u8 q
    cases q
    refine x_iconst (pc := 38) dX9_nextPick_38 (v := 5) rfl ?_
    obtain ⟨rfl, rfl⟩ := s2 h
    exact y_retI (pc := 39) dX9_nextPick_39 rfl
def L_X9_comparePlan_51 : Nat → Nat → Int32 → zM → Option (zM)
  | 0, _, _, _ => none
  | n + 1, l0, l1, M => (oI M l0 9 58 35).bind fun v14 => if v14 ≤ l1 then (some M) else ((oR M l0 9 58 43).bind fun v17 => (oR M l0 9 58 38).bind fun v19 => (aI M v19 l1).bind fun v21 => (sI M v17 l1 v21).bind fun M23 => L_X9_comparePlan_51 n l0 (l1 + 1) M23)
def f_X9_comparePlan (l0 : Nat) (M : zM) : Option (zM) := bif Nat.ble 1 l0 then ((oI M l0 9 58 41).bind fun v1 => (oI M l0 9 58 44).bind fun v3 => if v3 < v1 then ((oI M l0 9 58 41).bind fun v6 => (pI M l0 9 58 44 v6).bind fun M8 => (oI M8 l0 9 58 42).bind fun v10 => (pI M8 l0 9 58 45 v10).bind fun M12 => (L_X9_comparePlan_51 zN l0 0 M12).bind fun M15 => some M15) else ((oI M l0 9 58 41).bind fun v16 => (oI M l0 9 58 44).bind fun v18 => if v16 = v18 then ((oI M l0 9 58 42).bind fun v21 => (oI M l0 9 58 45).bind fun v23 => if v23 ≤ v21 then (some M) else ((oI M l0 9 58 41).bind fun v26 => (pI M l0 9 58 44 v26).bind fun M28 => (oI M28 l0 9 58 42).bind fun v30 => (pI M28 l0 9 58 45 v30).bind fun M32 => (L_X9_comparePlan_51 zN l0 0 M32).bind fun M35 => some M35)) else (some M))) else none
theorem LX_X9_comparePlan_51 {G : zG} {d : Nat} : ∀ (n : Nat) (l0 : Nat) (l1 : Int32) (M : zM) (hl0 : l0 ≠ 0) (MX : zM) {res : Option Value × zM}, L_X9_comparePlan_51 n l0 l1 M = some MX → Ex G d yX9_comparePlan cX9_comparePlan 2 none 77 [.null, .null] [] MX res → Ex G d yX9_comparePlan cX9_comparePlan 2 none 51 [.ref l0, .int l1] [] M res := by
  intro n
  induction n with
  | zero =>
    intro l0 l1 M hl0 MX res h K
    simp [L_X9_comparePlan_51] at h
  | succ n ih =>
    intro l0 l1 M hl0 MX res h K
    simp only [L_X9_comparePlan_51] at h
    refine x_iload_n (pc := 51) dX9_comparePlan_51 rfl rfl ?_
    refine x_aload_n (pc := 52) dX9_comparePlan_52 rfl rfl hl0 ?_
    obtain ⟨v14, e15, h⟩ := ob h
    refine y_getI (pc := 53) dX9_comparePlan_53 zf_X9_347 e15 (by decide) ?_
    refine x_icmp_ge (pc := 56) dX9_comparePlan_56 (t := 77) rfl (fun c16 => ?_) (fun c16 => ?_)
    · rw [if_pos c16] at h
      obtain rfl := s1 h
      refine ex_weak (Ls2 := [.null, .null]) ⟨Or.inl rfl, Or.inl rfl, trivial⟩ ?_
      exact K
    · rw [if_neg c16] at h
      refine x_aload_n (pc := 59) dX9_comparePlan_59 rfl rfl hl0 ?_
      obtain ⟨v17, e18, h⟩ := ob h
      refine y_getR (pc := 60) dX9_comparePlan_60 zf_X9_84 e18 ?_
      refine x_iload_n (pc := 63) dX9_comparePlan_63 rfl rfl ?_
      refine x_aload_n (pc := 64) dX9_comparePlan_64 rfl rfl hl0 ?_
      obtain ⟨v19, e20, h⟩ := ob h
      refine y_getR (pc := 65) dX9_comparePlan_65 zf_X9_75 e20 ?_
      refine x_iload_n (pc := 68) dX9_comparePlan_68 rfl rfl ?_
      obtain ⟨v21, e22, h⟩ := ob h
      refine y_iald (pc := 69) dX9_comparePlan_69 e22 ?_
      obtain ⟨M23, e24, h⟩ := ob h
      refine y_iast (pc := 70) dX9_comparePlan_70 e24 ?_
      refine x_iinc (pc := 71) dX9_comparePlan_71 rfl rfl (by decide) rfl ?_
      refine x_goto (pc := 74) dX9_comparePlan_74 (t := 51) rfl ?_
      refine ex_weak (Ls2 := [.ref l0, .int (l1 + 1)]) ⟨Or.inr rfl, Or.inr rfl, trivial⟩ ?_
      exact ih _ _ _ hl0  _ h K
theorem E_X9_comparePlan {G : zG} {d : Nat} {l0 : Nat} {M MR : zM} (h : f_X9_comparePlan l0 M = some MR) : Ex G d yX9_comparePlan cX9_comparePlan 2 none 0 (zent0 [.ref l0] 2) [] M (none, MR) := by
  unfold f_X9_comparePlan at h
  obtain ⟨zz0, h⟩ := bt h
  have hl0 := bz zz0
  show Ex _ _ _ _ _ _ 0 [.ref l0, .null] [] _ _
  refine x_aload_n (pc := 0) dX9_comparePlan_0 rfl rfl hl0 ?_
  obtain ⟨v1, e2, h⟩ := ob h
  refine y_getI (pc := 1) dX9_comparePlan_1 zf_X9_331 e2 (by decide) ?_
  refine x_aload_n (pc := 4) dX9_comparePlan_4 rfl rfl hl0 ?_
  obtain ⟨v3, e4, h⟩ := ob h
  refine y_getI (pc := 5) dX9_comparePlan_5 zf_X9_341 e4 (by decide) ?_
  refine x_icmp_gt (pc := 8) dX9_comparePlan_8 (t := 33) rfl (fun c5 => ?_) (fun c5 => ?_)
  · rw [if_pos c5] at h
    refine x_aload_n (pc := 33) dX9_comparePlan_33 rfl rfl hl0 ?_
    refine x_aload_n (pc := 34) dX9_comparePlan_34 rfl rfl hl0 ?_
    obtain ⟨v6, e7, h⟩ := ob h
    refine y_getI (pc := 35) dX9_comparePlan_35 zf_X9_331 e7 (by decide) ?_
    obtain ⟨M8, e9, h⟩ := ob h
    refine y_putI (pc := 38) dX9_comparePlan_38 zf_X9_341 e9 ?_
    refine x_aload_n (pc := 41) dX9_comparePlan_41 rfl rfl hl0 ?_
    refine x_aload_n (pc := 42) dX9_comparePlan_42 rfl rfl hl0 ?_
    obtain ⟨v10, e11, h⟩ := ob h
    refine y_getI (pc := 43) dX9_comparePlan_43 zf_X9_325 e11 (by decide) ?_
    obtain ⟨M12, e13, h⟩ := ob h
    refine y_putI (pc := 46) dX9_comparePlan_46 zf_X9_344 e13 ?_
    refine x_iconst (pc := 49) dX9_comparePlan_49 (v := 0) rfl ?_
    refine x_istore_n (pc := 50) dX9_comparePlan_50 rfl (by decide) rfl ?_
    obtain ⟨M15, e14, h⟩ := ob h
    refine ex_weak (Ls2 := [.ref l0, .int 0]) ⟨Or.inr rfl, Or.inr rfl, trivial⟩ ?_
    refine LX_X9_comparePlan_51 zN _ _ _ hl0 _ e14 ?_
    obtain rfl := s1 h
    exact x_vret (pc := 77) dX9_comparePlan_77 rfl
  · rw [if_neg c5] at h
    refine x_aload_n (pc := 11) dX9_comparePlan_11 rfl rfl hl0 ?_
    obtain ⟨v16, e17, h⟩ := ob h
    refine y_getI (pc := 12) dX9_comparePlan_12 zf_X9_331 e17 (by decide) ?_
    refine x_aload_n (pc := 15) dX9_comparePlan_15 rfl rfl hl0 ?_
    obtain ⟨v18, e19, h⟩ := ob h
    refine y_getI (pc := 16) dX9_comparePlan_16 zf_X9_341 e19 (by decide) ?_
    refine x_icmp_ne (pc := 19) dX9_comparePlan_19 (t := 77) rfl (fun c20 => ?_) (fun c20 => ?_)
    · rw [if_neg c20] at h
      obtain rfl := s1 h
      exact x_vret (pc := 77) dX9_comparePlan_77 rfl
    · rw [if_pos c20] at h
      refine x_aload_n (pc := 22) dX9_comparePlan_22 rfl rfl hl0 ?_
      obtain ⟨v21, e22, h⟩ := ob h
      refine y_getI (pc := 23) dX9_comparePlan_23 zf_X9_325 e22 (by decide) ?_
      refine x_aload_n (pc := 26) dX9_comparePlan_26 rfl rfl hl0 ?_
      obtain ⟨v23, e24, h⟩ := ob h
      refine y_getI (pc := 27) dX9_comparePlan_27 zf_X9_344 e24 (by decide) ?_
      refine x_icmp_ge (pc := 30) dX9_comparePlan_30 (t := 77) rfl (fun c25 => ?_) (fun c25 => ?_)
      · rw [if_pos c25] at h
        obtain rfl := s1 h
        exact x_vret (pc := 77) dX9_comparePlan_77 rfl
      · rw [if_neg c25] at h
        refine x_aload_n (pc := 33) dX9_comparePlan_33 rfl rfl hl0 ?_
        refine x_aload_n (pc := 34) dX9_comparePlan_34 rfl rfl hl0 ?_
        obtain ⟨v26, e27, h⟩ := ob h
        refine y_getI (pc := 35) dX9_comparePlan_35 zf_X9_331 e27 (by decide) ?_
        obtain ⟨M28, e29, h⟩ := ob h
        refine y_putI (pc := 38) dX9_comparePlan_38 zf_X9_341 e29 ?_
        refine x_aload_n (pc := 41) dX9_comparePlan_41 rfl rfl hl0 ?_
        refine x_aload_n (pc := 42) dX9_comparePlan_42 rfl rfl hl0 ?_
        obtain ⟨v30, e31, h⟩ := ob h
        refine y_getI (pc := 43) dX9_comparePlan_43 zf_X9_325 e31 (by decide) ?_
        obtain ⟨M32, e33, h⟩ := ob h
        refine y_putI (pc := 46) dX9_comparePlan_46 zf_X9_344 e33 ?_
        refine x_iconst (pc := 49) dX9_comparePlan_49 (v := 0) rfl ?_
        refine x_istore_n (pc := 50) dX9_comparePlan_50 rfl (by decide) rfl ?_
        obtain ⟨M35, e34, h⟩ := ob h
        refine ex_weak (Ls2 := [.ref l0, .int 0]) ⟨Or.inr rfl, Or.inr rfl, trivial⟩ ?_
        refine LX_X9_comparePlan_51 zN _ _ _ hl0 _ e34 ?_
        obtain rfl := s1 h
        exact x_vret (pc := 77) dX9_comparePlan_77 rfl
def L_X9_findPlan_7 : Nat → Nat → Int32 → zM → Option (zM)
  | 0, _, _, _ => none
  | n + 1, l0, l1, M => (oI M l0 9 58 8).bind fun v3 => if v3 ≤ l1 then (some M) else (bif zac M l0 9 58 then ((f_X9_isToCome l0 l1 M).bind fun r6 => if r6 = 0 then (L_X9_findPlan_7 n l0 (l1 + 1) M) else ((oR M l0 9 58 36).bind fun v9 => (oI M l0 9 58 35).bind fun v11 => (sI M v9 v11 l1).bind fun M13 => (oI M13 l0 9 58 35).bind fun v15 => (pI M13 l0 9 58 35 (v15 + 1)).bind fun M17 => L_X9_findPlan_7 n l0 (l1 + 1) M17)) else none)
def L_X9_findPlan_51 : Nat → Nat → Int32 → zM → Option (zM)
  | 0, _, _, _ => none
  | n + 1, l0, l1, M => if 8 ≤ l1 then (some M) else ((oR M l0 9 58 40).bind fun v6 => (oR M l0 9 58 0).bind fun v8 => (aI M v8 (13 + l1)).bind fun v10 => (oR M l0 9 58 0).bind fun v12 => bif zac M l0 9 58 then ((f_X9_hoardedOf l0 v12 l1 M).bind fun r14 => (sI M v6 l1 (v10 + r14)).bind fun M16 => (oR M16 l0 9 58 39).bind fun v18 => (sI M16 v18 l1 0).bind fun M20 => L_X9_findPlan_51 n l0 (l1 + 1) M20) else none)
def L_X9_findPlan_112 : Nat → Nat → Int32 → zM → Option (zM)
  | 0, _, _, _ => none
  | n + 1, l0, l1, M => if l1 < 0 then (some M) else ((oR M l0 9 58 37).bind fun v16 => (oR M l0 9 58 37).bind fun v18 => (aI M v18 (l1 + 1)).bind fun v20 => (oR M l0 9 58 36).bind fun v22 => (aI M v22 l1).bind fun v24 => bif zac M l0 9 58 then ((f_X9_worthOf l0 v24 M).bind fun r26 => (sI M v16 l1 (v20 + r26)).bind fun M28 => L_X9_findPlan_112 n l0 (l1 + (-1)) M28) else none)
def L_X9_findPlan_176 : Nat → Nat → Int32 → zM → Option (zM)
  | 0, _, _, _ => none
  | n + 1, l0, l1, M => if l1 < 0 then (some M) else ((oI M l0 9 58 35).bind fun v30 => if l1 = v30 then (bif zac M l0 9 58 then ((f_X9_comparePlan l0 M).bind fun M33 => L_X9_findPlan_176 n l0 (l1 + (-1)) M33) else none) else ((oR M l0 9 58 38).bind fun v36 => (aI M v36 l1).bind fun v38 => if v38 = (-1) then ((oR M l0 9 58 38).bind fun v41 => bif zac M l0 9 58 then (b2 (f_X9_nextPick l0 l1 M) fun r43 M44 => (sI M44 v41 l1 r43).bind fun M46 => (oR M46 l0 9 58 38).bind fun v48 => (aI M46 v48 l1).bind fun v50 => if v50 = 5 then ((oR M46 l0 9 58 38).bind fun v53 => (sI M46 v53 l1 (-1)).bind fun M55 => L_X9_findPlan_176 n l0 (l1 + (-1)) M55) else ((oI M46 l0 9 58 41).bind fun v57 => (oR M46 l0 9 58 37).bind fun v59 => (aI M46 v59 (l1 + 1)).bind fun v61 => (oI M46 l0 9 58 44).bind fun v63 => if v57 + v61 < v63 then (L_X9_findPlan_176 n l0 l1 M46) else ((oR M46 l0 9 58 38).bind fun v66 => (sI M46 v66 (l1 + 1) (-1)).bind fun M68 => L_X9_findPlan_176 n l0 (l1 + 1) M68))) else none) else ((oR M l0 9 58 38).bind fun v71 => (aI M v71 l1).bind fun v73 => bif zac M l0 9 58 then ((f_X9_use l0 l1 v73 (-1) M).bind fun M75 => (oR M75 l0 9 58 38).bind fun v77 => bif zac M75 l0 9 58 then (b2 (f_X9_nextPick l0 l1 M75) fun r79 M80 => (sI M80 v77 l1 r79).bind fun M82 => (oR M82 l0 9 58 38).bind fun v84 => (aI M82 v84 l1).bind fun v86 => if v86 = 5 then ((oR M82 l0 9 58 38).bind fun v89 => (sI M82 v89 l1 (-1)).bind fun M91 => L_X9_findPlan_176 n l0 (l1 + (-1)) M91) else ((oI M82 l0 9 58 41).bind fun v93 => (oR M82 l0 9 58 37).bind fun v95 => (aI M82 v95 (l1 + 1)).bind fun v97 => (oI M82 l0 9 58 44).bind fun v99 => if v93 + v97 < v99 then (L_X9_findPlan_176 n l0 l1 M82) else ((oR M82 l0 9 58 38).bind fun v102 => (sI M82 v102 (l1 + 1) (-1)).bind fun M104 => L_X9_findPlan_176 n l0 (l1 + 1) M104))) else none) else none)))
def f_X9_findPlan (l0 : Nat) (M : zM) : Option (zM) := bif Nat.ble 1 l0 then ((pI M l0 9 58 35 0).bind fun M1 => (L_X9_findPlan_7 zN l0 0 M1).bind fun M4 => (L_X9_findPlan_51 zN l0 0 M4).bind fun M6 => (oR M6 l0 9 58 37).bind fun v7 => (oI M6 l0 9 58 35).bind fun v9 => (sI M6 v7 v9 0).bind fun M11 => (oI M11 l0 9 58 35).bind fun v13 => (L_X9_findPlan_112 zN l0 (v13 - 1) M11).bind fun M16 => (pI M16 l0 9 58 41 0).bind fun M17 => (pI M17 l0 9 58 42 0).bind fun M19 => (pI M19 l0 9 58 44 (-1)).bind fun M21 => (pI M21 l0 9 58 45 0).bind fun M23 => (oR M23 l0 9 58 38).bind fun v25 => (sI M23 v25 0 (-1)).bind fun M27 => (L_X9_findPlan_176 zN l0 0 M27).bind fun M30 => some M30) else none
set_option maxRecDepth 100000 in
set_option maxHeartbeats 2000000 in
theorem LX_X9_findPlan_7 {G : zG} {d : Nat} : ∀ (n : Nat) (l0 : Nat) (l1 : Int32) (M : zM) (hl0 : l0 ≠ 0) (MX : zM) {res : Option Value × zM}, L_X9_findPlan_7 n l0 l1 M = some MX → Ex G (d + 4) yX9_findPlan cX9_findPlan 2 none 49 [.ref l0, .null] [] MX res → Ex G (d + 4) yX9_findPlan cX9_findPlan 2 none 7 [.ref l0, .int l1] [] M res := by
  intro n
  induction n with
  | zero =>
    intro l0 l1 M hl0 MX res h K
    simp [L_X9_findPlan_7] at h
  | succ n ih =>
    intro l0 l1 M hl0 MX res h K
    simp only [L_X9_findPlan_7] at h
    refine x_iload_n (pc := 7) dX9_findPlan_7 rfl rfl ?_
    refine x_aload_n (pc := 8) dX9_findPlan_8 rfl rfl hl0 ?_
    obtain ⟨v3, e4, h⟩ := ob h
    refine y_getI (pc := 9) dX9_findPlan_9 zf_X9_127 e4 (by decide) ?_
    refine x_icmp_ge (pc := 12) dX9_findPlan_12 (t := 49) rfl (fun c5 => ?_) (fun c5 => ?_)
    · rw [if_pos c5] at h
      obtain rfl := s1 h
      refine ex_weak (Ls2 := [.ref l0, .null]) ⟨Or.inr rfl, Or.inl rfl, trivial⟩ ?_
      exact K
    · rw [if_neg c5] at h
      refine x_aload_n (pc := 15) dX9_findPlan_15 rfl rfl hl0 ?_
      refine x_iload_n (pc := 16) dX9_findPlan_16 rfl rfl ?_
      obtain ⟨g19, h⟩ := bt h
      obtain ⟨r6, e7, h⟩ := ob h
      refine x_callV (av := [.int l1]) (st := []) (pc := 17) dX9_findPlan_17 (E_X9_isToCome (d := d + 2) e7) rfl (Nat.le_of_ble_eq_true rfl) zc_X9_isToCome rfl zm_X9_251 zi_X9_isToCome zs_X9_isToCome (zac_ok g19) (by decide) rfl rfl (zst_ok rfl (Nat.le_of_ble_eq_true rfl)) rfl ?_
      refine x_if_eq (pc := 20) dX9_findPlan_20 (t := 43) rfl (fun c8 => ?_) (fun c8 => ?_)
      · rw [if_pos c8] at h
        refine x_iinc (pc := 43) dX9_findPlan_43 rfl rfl (by decide) rfl ?_
        refine x_goto (pc := 46) dX9_findPlan_46 (t := 7) rfl ?_
        refine ex_weak (Ls2 := [.ref l0, .int (l1 + 1)]) ⟨Or.inr rfl, Or.inr rfl, trivial⟩ ?_
        exact ih _ _ _ hl0  _ h K
      · rw [if_neg c8] at h
        refine x_aload_n (pc := 23) dX9_findPlan_23 rfl rfl hl0 ?_
        obtain ⟨v9, e10, h⟩ := ob h
        refine y_getR (pc := 24) dX9_findPlan_24 zf_X9_69 e10 ?_
        refine x_aload_n (pc := 27) dX9_findPlan_27 rfl rfl hl0 ?_
        obtain ⟨v11, e12, h⟩ := ob h
        refine y_getI (pc := 28) dX9_findPlan_28 zf_X9_347 e12 (by decide) ?_
        refine x_iload_n (pc := 31) dX9_findPlan_31 rfl rfl ?_
        obtain ⟨M13, e14, h⟩ := ob h
        refine y_iast (pc := 32) dX9_findPlan_32 e14 ?_
        refine x_aload_n (pc := 33) dX9_findPlan_33 rfl rfl hl0 ?_
        refine x_dup (pc := 34) dX9_findPlan_34 rv_cr ?_
        obtain ⟨v15, e16, h⟩ := ob h
        refine y_getI (pc := 35) dX9_findPlan_35 zf_X9_347 e16 (by decide) ?_
        refine x_iconst (pc := 38) dX9_findPlan_38 (v := 1) rfl ?_
        refine x_iadd (pc := 39) dX9_findPlan_39 ?_
        obtain ⟨M17, e18, h⟩ := ob h
        refine y_putI (pc := 40) dX9_findPlan_40 zf_X9_347 e18 ?_
        refine x_iinc (pc := 43) dX9_findPlan_43 rfl rfl (by decide) rfl ?_
        refine x_goto (pc := 46) dX9_findPlan_46 (t := 7) rfl ?_
        refine ex_weak (Ls2 := [.ref l0, .int (l1 + 1)]) ⟨Or.inr rfl, Or.inr rfl, trivial⟩ ?_
        exact ih _ _ _ hl0  _ h K
set_option maxRecDepth 100000 in
set_option maxHeartbeats 2000000 in
theorem LX_X9_findPlan_51 {G : zG} {d : Nat} : ∀ (n : Nat) (l0 : Nat) (l1 : Int32) (M : zM) (hl0 : l0 ≠ 0) (MX : zM) {res : Option Value × zM}, L_X9_findPlan_51 n l0 l1 M = some MX → Ex G (d + 4) yX9_findPlan cX9_findPlan 2 none 95 [.ref l0, .null] [] MX res → Ex G (d + 4) yX9_findPlan cX9_findPlan 2 none 51 [.ref l0, .int l1] [] M res := by
  intro n
  induction n with
  | zero =>
    intro l0 l1 M hl0 MX res h K
    simp [L_X9_findPlan_51] at h
  | succ n ih =>
    intro l0 l1 M hl0 MX res h K
    simp only [L_X9_findPlan_51] at h
    refine x_iload_n (pc := 51) dX9_findPlan_51 rfl rfl ?_
    refine x_bipush (pc := 52) dX9_findPlan_52 (v := 8) (by decide) ?_
    refine x_icmp_ge (pc := 54) dX9_findPlan_54 (t := 95) rfl (fun c5 => ?_) (fun c5 => ?_)
    · rw [if_pos c5] at h
      obtain rfl := s1 h
      refine ex_weak (Ls2 := [.ref l0, .null]) ⟨Or.inr rfl, Or.inl rfl, trivial⟩ ?_
      exact K
    · rw [if_neg c5] at h
      refine x_aload_n (pc := 57) dX9_findPlan_57 rfl rfl hl0 ?_
      obtain ⟨v6, e7, h⟩ := ob h
      refine y_getR (pc := 58) dX9_findPlan_58 zf_X9_81 e7 ?_
      refine x_iload_n (pc := 61) dX9_findPlan_61 rfl rfl ?_
      refine x_aload_n (pc := 62) dX9_findPlan_62 rfl rfl hl0 ?_
      obtain ⟨v8, e9, h⟩ := ob h
      refine y_getR (pc := 63) dX9_findPlan_63 zf_X9_7 e9 ?_
      refine x_bipush (pc := 66) dX9_findPlan_66 (v := 13) (by decide) ?_
      refine x_iload_n (pc := 68) dX9_findPlan_68 rfl rfl ?_
      refine x_iadd (pc := 69) dX9_findPlan_69 ?_
      obtain ⟨v10, e11, h⟩ := ob h
      refine y_iald (pc := 70) dX9_findPlan_70 e11 ?_
      refine x_aload_n (pc := 71) dX9_findPlan_71 rfl rfl hl0 ?_
      refine x_aload_n (pc := 72) dX9_findPlan_72 rfl rfl hl0 ?_
      obtain ⟨v12, e13, h⟩ := ob h
      refine y_getR (pc := 73) dX9_findPlan_73 zf_X9_7 e13 ?_
      refine x_iload_n (pc := 76) dX9_findPlan_76 rfl rfl ?_
      obtain ⟨g22, h⟩ := bt h
      obtain ⟨r14, e15, h⟩ := ob h
      refine x_callV (av := [.ref v12, .int l1]) (st := [.int v10, .int l1, .ref v6]) (pc := 77) dX9_findPlan_77 (E_X9_hoardedOf (d := d + 3) e15) rfl (Nat.le_of_ble_eq_true rfl) zc_X9_hoardedOf rfl zm_X9_239 zi_X9_hoardedOf zs_X9_hoardedOf (zac_ok g22) (by decide) rfl rfl (zst_ok rfl (Nat.le_of_ble_eq_true rfl)) rfl ?_
      refine x_iadd (pc := 80) dX9_findPlan_80 ?_
      obtain ⟨M16, e17, h⟩ := ob h
      refine y_iast (pc := 81) dX9_findPlan_81 e17 ?_
      refine x_aload_n (pc := 82) dX9_findPlan_82 rfl rfl hl0 ?_
      obtain ⟨v18, e19, h⟩ := ob h
      refine y_getR (pc := 83) dX9_findPlan_83 zf_X9_78 e19 ?_
      refine x_iload_n (pc := 86) dX9_findPlan_86 rfl rfl ?_
      refine x_iconst (pc := 87) dX9_findPlan_87 (v := 0) rfl ?_
      obtain ⟨M20, e21, h⟩ := ob h
      refine y_iast (pc := 88) dX9_findPlan_88 e21 ?_
      refine x_iinc (pc := 89) dX9_findPlan_89 rfl rfl (by decide) rfl ?_
      refine x_goto (pc := 92) dX9_findPlan_92 (t := 51) rfl ?_
      refine ex_weak (Ls2 := [.ref l0, .int (l1 + 1)]) ⟨Or.inr rfl, Or.inr rfl, trivial⟩ ?_
      exact ih _ _ _ hl0  _ h K
set_option maxRecDepth 100000 in
set_option maxHeartbeats 2000000 in
theorem LX_X9_findPlan_112 {G : zG} {d : Nat} : ∀ (n : Nat) (l0 : Nat) (l1 : Int32) (M : zM) (hl0 : l0 ≠ 0) (MX : zM) {res : Option Value × zM}, L_X9_findPlan_112 n l0 l1 M = some MX → Ex G (d + 4) yX9_findPlan cX9_findPlan 2 none 147 [.ref l0, .null] [] MX res → Ex G (d + 4) yX9_findPlan cX9_findPlan 2 none 112 [.ref l0, .int l1] [] M res := by
  intro n
  induction n with
  | zero =>
    intro l0 l1 M hl0 MX res h K
    simp [L_X9_findPlan_112] at h
  | succ n ih =>
    intro l0 l1 M hl0 MX res h K
    simp only [L_X9_findPlan_112] at h
    refine x_iload_n (pc := 112) dX9_findPlan_112 rfl rfl ?_
    refine x_if_lt (pc := 113) dX9_findPlan_113 (t := 147) rfl (fun c15 => ?_) (fun c15 => ?_)
    · rw [if_pos c15] at h
      obtain rfl := s1 h
      refine ex_weak (Ls2 := [.ref l0, .null]) ⟨Or.inr rfl, Or.inl rfl, trivial⟩ ?_
      exact K
    · rw [if_neg c15] at h
      refine x_aload_n (pc := 116) dX9_findPlan_116 rfl rfl hl0 ?_
      obtain ⟨v16, e17, h⟩ := ob h
      refine y_getR (pc := 117) dX9_findPlan_117 zf_X9_72 e17 ?_
      refine x_iload_n (pc := 120) dX9_findPlan_120 rfl rfl ?_
      refine x_aload_n (pc := 121) dX9_findPlan_121 rfl rfl hl0 ?_
      obtain ⟨v18, e19, h⟩ := ob h
      refine y_getR (pc := 122) dX9_findPlan_122 zf_X9_72 e19 ?_
      refine x_iload_n (pc := 125) dX9_findPlan_125 rfl rfl ?_
      refine x_iconst (pc := 126) dX9_findPlan_126 (v := 1) rfl ?_
      refine x_iadd (pc := 127) dX9_findPlan_127 ?_
      obtain ⟨v20, e21, h⟩ := ob h
      refine y_iald (pc := 128) dX9_findPlan_128 e21 ?_
      refine x_aload_n (pc := 129) dX9_findPlan_129 rfl rfl hl0 ?_
      refine x_aload_n (pc := 130) dX9_findPlan_130 rfl rfl hl0 ?_
      obtain ⟨v22, e23, h⟩ := ob h
      refine y_getR (pc := 131) dX9_findPlan_131 zf_X9_69 e23 ?_
      refine x_iload_n (pc := 134) dX9_findPlan_134 rfl rfl ?_
      obtain ⟨v24, e25, h⟩ := ob h
      refine y_iald (pc := 135) dX9_findPlan_135 e25 ?_
      obtain ⟨g30, h⟩ := bt h
      obtain ⟨r26, e27, h⟩ := ob h
      refine x_callV (av := [.int v24]) (st := [.int v20, .int l1, .ref v16]) (pc := 136) dX9_findPlan_136 (E_X9_worthOf (d := d + 3) e27) rfl (Nat.le_of_ble_eq_true rfl) zc_X9_worthOf rfl zm_X9_281 zi_X9_worthOf zs_X9_worthOf (zac_ok g30) (by decide) rfl rfl (zst_ok rfl (Nat.le_of_ble_eq_true rfl)) rfl ?_
      refine x_iadd (pc := 139) dX9_findPlan_139 ?_
      obtain ⟨M28, e29, h⟩ := ob h
      refine y_iast (pc := 140) dX9_findPlan_140 e29 ?_
      refine x_iinc (pc := 141) dX9_findPlan_141 rfl rfl (by decide) rfl ?_
      refine x_goto (pc := 144) dX9_findPlan_144 (t := 112) rfl ?_
      refine ex_weak (Ls2 := [.ref l0, .int (l1 + (-1))]) ⟨Or.inr rfl, Or.inr rfl, trivial⟩ ?_
      exact ih _ _ _ hl0  _ h K
set_option maxRecDepth 100000 in
set_option maxHeartbeats 2000000 in
theorem LX_X9_findPlan_176 {G : zG} {d : Nat} : ∀ (n : Nat) (l0 : Nat) (l1 : Int32) (M : zM) (hl0 : l0 ≠ 0) (MX : zM) {res : Option Value × zM}, L_X9_findPlan_176 n l0 l1 M = some MX → Ex G (d + 4) yX9_findPlan cX9_findPlan 2 none 287 [.null, .null] [] MX res → Ex G (d + 4) yX9_findPlan cX9_findPlan 2 none 176 [.ref l0, .int l1] [] M res := by
  intro n
  induction n with
  | zero =>
    intro l0 l1 M hl0 MX res h K
    simp [L_X9_findPlan_176] at h
  | succ n ih =>
    intro l0 l1 M hl0 MX res h K
    simp only [L_X9_findPlan_176] at h
    refine x_iload_n (pc := 176) dX9_findPlan_176 rfl rfl ?_
    refine x_if_lt (pc := 177) dX9_findPlan_177 (t := 287) rfl (fun c29 => ?_) (fun c29 => ?_)
    · rw [if_pos c29] at h
      obtain rfl := s1 h
      refine ex_weak (Ls2 := [.null, .null]) ⟨Or.inl rfl, Or.inl rfl, trivial⟩ ?_
      exact K
    · rw [if_neg c29] at h
      refine x_iload_n (pc := 180) dX9_findPlan_180 rfl rfl ?_
      refine x_aload_n (pc := 181) dX9_findPlan_181 rfl rfl hl0 ?_
      obtain ⟨v30, e31, h⟩ := ob h
      refine y_getI (pc := 182) dX9_findPlan_182 zf_X9_347 e31 (by decide) ?_
      refine x_icmp_ne (pc := 185) dX9_findPlan_185 (t := 198) rfl (fun c32 => ?_) (fun c32 => ?_)
      · rw [if_neg c32] at h
        refine x_aload_n (pc := 198) dX9_findPlan_198 rfl rfl hl0 ?_
        obtain ⟨v36, e37, h⟩ := ob h
        refine y_getR (pc := 199) dX9_findPlan_199 zf_X9_75 e37 ?_
        refine x_iload_n (pc := 202) dX9_findPlan_202 rfl rfl ?_
        obtain ⟨v38, e39, h⟩ := ob h
        refine y_iald (pc := 203) dX9_findPlan_203 e39 ?_
        refine x_iconst (pc := 204) dX9_findPlan_204 (v := (-1)) rfl ?_
        refine x_icmp_eq (pc := 205) dX9_findPlan_205 (t := 220) rfl (fun c40 => ?_) (fun c40 => ?_)
        · rw [if_pos c40] at h
          refine x_aload_n (pc := 220) dX9_findPlan_220 rfl rfl hl0 ?_
          obtain ⟨v41, e42, h⟩ := ob h
          refine y_getR (pc := 221) dX9_findPlan_221 zf_X9_75 e42 ?_
          refine x_iload_n (pc := 224) dX9_findPlan_224 rfl rfl ?_
          refine x_aload_n (pc := 225) dX9_findPlan_225 rfl rfl hl0 ?_
          refine x_iload_n (pc := 226) dX9_findPlan_226 rfl rfl ?_
          obtain ⟨g70, h⟩ := bt h
          obtain ⟨r43, M44, e45, h⟩ := ob2 h
          refine x_callV (av := [.int l1]) (st := [.int l1, .ref v41]) (pc := 227) dX9_findPlan_227 (E_X9_nextPick (d := d) e45) rfl (Nat.le_of_ble_eq_true rfl) zc_X9_nextPick rfl zm_X9_353 zi_X9_nextPick zs_X9_nextPick (zac_ok g70) (by decide) rfl rfl (zst_ok rfl (Nat.le_of_ble_eq_true rfl)) rfl ?_
          obtain ⟨M46, e47, h⟩ := ob h
          refine y_iast (pc := 230) dX9_findPlan_230 e47 ?_
          refine x_aload_n (pc := 231) dX9_findPlan_231 rfl rfl hl0 ?_
          obtain ⟨v48, e49, h⟩ := ob h
          refine y_getR (pc := 232) dX9_findPlan_232 zf_X9_75 e49 ?_
          refine x_iload_n (pc := 235) dX9_findPlan_235 rfl rfl ?_
          obtain ⟨v50, e51, h⟩ := ob h
          refine y_iald (pc := 236) dX9_findPlan_236 e51 ?_
          refine x_iconst (pc := 237) dX9_findPlan_237 (v := 5) rfl ?_
          refine x_icmp_ne (pc := 238) dX9_findPlan_238 (t := 254) rfl (fun c52 => ?_) (fun c52 => ?_)
          · rw [if_neg c52] at h
            refine x_aload_n (pc := 254) dX9_findPlan_254 rfl rfl hl0 ?_
            obtain ⟨v57, e58, h⟩ := ob h
            refine y_getI (pc := 255) dX9_findPlan_255 zf_X9_331 e58 (by decide) ?_
            refine x_aload_n (pc := 258) dX9_findPlan_258 rfl rfl hl0 ?_
            obtain ⟨v59, e60, h⟩ := ob h
            refine y_getR (pc := 259) dX9_findPlan_259 zf_X9_72 e60 ?_
            refine x_iload_n (pc := 262) dX9_findPlan_262 rfl rfl ?_
            refine x_iconst (pc := 263) dX9_findPlan_263 (v := 1) rfl ?_
            refine x_iadd (pc := 264) dX9_findPlan_264 ?_
            obtain ⟨v61, e62, h⟩ := ob h
            refine y_iald (pc := 265) dX9_findPlan_265 e62 ?_
            refine x_iadd (pc := 266) dX9_findPlan_266 ?_
            refine x_aload_n (pc := 267) dX9_findPlan_267 rfl rfl hl0 ?_
            obtain ⟨v63, e64, h⟩ := ob h
            refine y_getI (pc := 268) dX9_findPlan_268 zf_X9_341 e64 (by decide) ?_
            refine x_icmp_lt (pc := 271) dX9_findPlan_271 (t := 176) rfl (fun c65 => ?_) (fun c65 => ?_)
            · rw [if_pos c65] at h
              refine ex_weak (Ls2 := [.ref l0, .int l1]) ⟨Or.inr rfl, Or.inr rfl, trivial⟩ ?_
              exact ih _ _ _ hl0  _ h K
            · rw [if_neg c65] at h
              refine x_iinc (pc := 274) dX9_findPlan_274 rfl rfl (by decide) rfl ?_
              refine x_aload_n (pc := 277) dX9_findPlan_277 rfl rfl hl0 ?_
              obtain ⟨v66, e67, h⟩ := ob h
              refine y_getR (pc := 278) dX9_findPlan_278 zf_X9_75 e67 ?_
              refine x_iload_n (pc := 281) dX9_findPlan_281 rfl rfl ?_
              refine x_iconst (pc := 282) dX9_findPlan_282 (v := (-1)) rfl ?_
              obtain ⟨M68, e69, h⟩ := ob h
              refine y_iast (pc := 283) dX9_findPlan_283 e69 ?_
              refine x_goto (pc := 284) dX9_findPlan_284 (t := 176) rfl ?_
              refine ex_weak (Ls2 := [.ref l0, .int (l1 + 1)]) ⟨Or.inr rfl, Or.inr rfl, trivial⟩ ?_
              exact ih _ _ _ hl0  _ h K
          · rw [if_pos c52] at h
            refine x_aload_n (pc := 241) dX9_findPlan_241 rfl rfl hl0 ?_
            obtain ⟨v53, e54, h⟩ := ob h
            refine y_getR (pc := 242) dX9_findPlan_242 zf_X9_75 e54 ?_
            refine x_iload_n (pc := 245) dX9_findPlan_245 rfl rfl ?_
            refine x_iconst (pc := 246) dX9_findPlan_246 (v := (-1)) rfl ?_
            obtain ⟨M55, e56, h⟩ := ob h
            refine y_iast (pc := 247) dX9_findPlan_247 e56 ?_
            refine x_iinc (pc := 248) dX9_findPlan_248 rfl rfl (by decide) rfl ?_
            refine x_goto (pc := 251) dX9_findPlan_251 (t := 176) rfl ?_
            refine ex_weak (Ls2 := [.ref l0, .int (l1 + (-1))]) ⟨Or.inr rfl, Or.inr rfl, trivial⟩ ?_
            exact ih _ _ _ hl0  _ h K
        · rw [if_neg c40] at h
          refine x_aload_n (pc := 208) dX9_findPlan_208 rfl rfl hl0 ?_
          refine x_iload_n (pc := 209) dX9_findPlan_209 rfl rfl ?_
          refine x_aload_n (pc := 210) dX9_findPlan_210 rfl rfl hl0 ?_
          obtain ⟨v71, e72, h⟩ := ob h
          refine y_getR (pc := 211) dX9_findPlan_211 zf_X9_75 e72 ?_
          refine x_iload_n (pc := 214) dX9_findPlan_214 rfl rfl ?_
          obtain ⟨v73, e74, h⟩ := ob h
          refine y_iald (pc := 215) dX9_findPlan_215 e74 ?_
          refine x_iconst (pc := 216) dX9_findPlan_216 (v := (-1)) rfl ?_
          obtain ⟨g107, h⟩ := bt h
          obtain ⟨M75, e76, h⟩ := ob h
          refine x_callV (av := [.int l1, .int v73, .int (-1)]) (st := []) (pc := 217) dX9_findPlan_217 (E_X9_use (d := d + 1) e76) rfl (Nat.le_of_ble_eq_true rfl) zc_X9_use rfl zm_X9_337 zi_X9_use zs_X9_use (zac_ok g107) (by decide) rfl rfl (zst_ok rfl (Nat.le_of_ble_eq_true rfl)) rfl ?_
          refine x_aload_n (pc := 220) dX9_findPlan_220 rfl rfl hl0 ?_
          obtain ⟨v77, e78, h⟩ := ob h
          refine y_getR (pc := 221) dX9_findPlan_221 zf_X9_75 e78 ?_
          refine x_iload_n (pc := 224) dX9_findPlan_224 rfl rfl ?_
          refine x_aload_n (pc := 225) dX9_findPlan_225 rfl rfl hl0 ?_
          refine x_iload_n (pc := 226) dX9_findPlan_226 rfl rfl ?_
          obtain ⟨g106, h⟩ := bt h
          obtain ⟨r79, M80, e81, h⟩ := ob2 h
          refine x_callV (av := [.int l1]) (st := [.int l1, .ref v77]) (pc := 227) dX9_findPlan_227 (E_X9_nextPick (d := d) e81) rfl (Nat.le_of_ble_eq_true rfl) zc_X9_nextPick rfl zm_X9_353 zi_X9_nextPick zs_X9_nextPick (zac_ok g106) (by decide) rfl rfl (zst_ok rfl (Nat.le_of_ble_eq_true rfl)) rfl ?_
          obtain ⟨M82, e83, h⟩ := ob h
          refine y_iast (pc := 230) dX9_findPlan_230 e83 ?_
          refine x_aload_n (pc := 231) dX9_findPlan_231 rfl rfl hl0 ?_
          obtain ⟨v84, e85, h⟩ := ob h
          refine y_getR (pc := 232) dX9_findPlan_232 zf_X9_75 e85 ?_
          refine x_iload_n (pc := 235) dX9_findPlan_235 rfl rfl ?_
          obtain ⟨v86, e87, h⟩ := ob h
          refine y_iald (pc := 236) dX9_findPlan_236 e87 ?_
          refine x_iconst (pc := 237) dX9_findPlan_237 (v := 5) rfl ?_
          refine x_icmp_ne (pc := 238) dX9_findPlan_238 (t := 254) rfl (fun c88 => ?_) (fun c88 => ?_)
          · rw [if_neg c88] at h
            refine x_aload_n (pc := 254) dX9_findPlan_254 rfl rfl hl0 ?_
            obtain ⟨v93, e94, h⟩ := ob h
            refine y_getI (pc := 255) dX9_findPlan_255 zf_X9_331 e94 (by decide) ?_
            refine x_aload_n (pc := 258) dX9_findPlan_258 rfl rfl hl0 ?_
            obtain ⟨v95, e96, h⟩ := ob h
            refine y_getR (pc := 259) dX9_findPlan_259 zf_X9_72 e96 ?_
            refine x_iload_n (pc := 262) dX9_findPlan_262 rfl rfl ?_
            refine x_iconst (pc := 263) dX9_findPlan_263 (v := 1) rfl ?_
            refine x_iadd (pc := 264) dX9_findPlan_264 ?_
            obtain ⟨v97, e98, h⟩ := ob h
            refine y_iald (pc := 265) dX9_findPlan_265 e98 ?_
            refine x_iadd (pc := 266) dX9_findPlan_266 ?_
            refine x_aload_n (pc := 267) dX9_findPlan_267 rfl rfl hl0 ?_
            obtain ⟨v99, e100, h⟩ := ob h
            refine y_getI (pc := 268) dX9_findPlan_268 zf_X9_341 e100 (by decide) ?_
            refine x_icmp_lt (pc := 271) dX9_findPlan_271 (t := 176) rfl (fun c101 => ?_) (fun c101 => ?_)
            · rw [if_pos c101] at h
              refine ex_weak (Ls2 := [.ref l0, .int l1]) ⟨Or.inr rfl, Or.inr rfl, trivial⟩ ?_
              exact ih _ _ _ hl0  _ h K
            · rw [if_neg c101] at h
              refine x_iinc (pc := 274) dX9_findPlan_274 rfl rfl (by decide) rfl ?_
              refine x_aload_n (pc := 277) dX9_findPlan_277 rfl rfl hl0 ?_
              obtain ⟨v102, e103, h⟩ := ob h
              refine y_getR (pc := 278) dX9_findPlan_278 zf_X9_75 e103 ?_
              refine x_iload_n (pc := 281) dX9_findPlan_281 rfl rfl ?_
              refine x_iconst (pc := 282) dX9_findPlan_282 (v := (-1)) rfl ?_
              obtain ⟨M104, e105, h⟩ := ob h
              refine y_iast (pc := 283) dX9_findPlan_283 e105 ?_
              refine x_goto (pc := 284) dX9_findPlan_284 (t := 176) rfl ?_
              refine ex_weak (Ls2 := [.ref l0, .int (l1 + 1)]) ⟨Or.inr rfl, Or.inr rfl, trivial⟩ ?_
              exact ih _ _ _ hl0  _ h K
          · rw [if_pos c88] at h
            refine x_aload_n (pc := 241) dX9_findPlan_241 rfl rfl hl0 ?_
            obtain ⟨v89, e90, h⟩ := ob h
            refine y_getR (pc := 242) dX9_findPlan_242 zf_X9_75 e90 ?_
            refine x_iload_n (pc := 245) dX9_findPlan_245 rfl rfl ?_
            refine x_iconst (pc := 246) dX9_findPlan_246 (v := (-1)) rfl ?_
            obtain ⟨M91, e92, h⟩ := ob h
            refine y_iast (pc := 247) dX9_findPlan_247 e92 ?_
            refine x_iinc (pc := 248) dX9_findPlan_248 rfl rfl (by decide) rfl ?_
            refine x_goto (pc := 251) dX9_findPlan_251 (t := 176) rfl ?_
            refine ex_weak (Ls2 := [.ref l0, .int (l1 + (-1))]) ⟨Or.inr rfl, Or.inr rfl, trivial⟩ ?_
            exact ih _ _ _ hl0  _ h K
      · rw [if_pos c32] at h
        refine x_aload_n (pc := 188) dX9_findPlan_188 rfl rfl hl0 ?_
        obtain ⟨g35, h⟩ := bt h
        obtain ⟨M33, e34, h⟩ := ob h
        refine x_callV (av := []) (st := []) (pc := 189) dX9_findPlan_189 (E_X9_comparePlan (d := d + 3) e34) rfl (Nat.le_of_ble_eq_true rfl) zc_X9_comparePlan rfl zm_X9_350 zi_X9_comparePlan zs_X9_comparePlan (zac_ok g35) (by decide) rfl rfl (zst_ok rfl (Nat.le_of_ble_eq_true rfl)) rfl ?_
        refine x_iinc (pc := 192) dX9_findPlan_192 rfl rfl (by decide) rfl ?_
        refine x_goto (pc := 195) dX9_findPlan_195 (t := 176) rfl ?_
        refine ex_weak (Ls2 := [.ref l0, .int (l1 + (-1))]) ⟨Or.inr rfl, Or.inr rfl, trivial⟩ ?_
        exact ih _ _ _ hl0  _ h K
set_option maxRecDepth 100000 in
set_option maxHeartbeats 2000000 in
theorem E_X9_findPlan {G : zG} {d : Nat} {l0 : Nat} {M MR : zM} (h : f_X9_findPlan l0 M = some MR) : Ex G (d + 4) yX9_findPlan cX9_findPlan 2 none 0 (zent0 [.ref l0] 2) [] M (none, MR) := by
  unfold f_X9_findPlan at h
  obtain ⟨zz0, h⟩ := bt h
  have hl0 := bz zz0
  show Ex _ _ _ _ _ _ 0 [.ref l0, .null] [] _ _
  refine x_aload_n (pc := 0) dX9_findPlan_0 rfl rfl hl0 ?_
  refine x_iconst (pc := 1) dX9_findPlan_1 (v := 0) rfl ?_
  obtain ⟨M1, e2, h⟩ := ob h
  refine y_putI (pc := 2) dX9_findPlan_2 zf_X9_347 e2 ?_
  refine x_iconst (pc := 5) dX9_findPlan_5 (v := 0) rfl ?_
  refine x_istore_n (pc := 6) dX9_findPlan_6 rfl (by decide) rfl ?_
  obtain ⟨M4, e3, h⟩ := ob h
  refine ex_weak (Ls2 := [.ref l0, .int 0]) ⟨Or.inr rfl, Or.inr rfl, trivial⟩ ?_
  refine LX_X9_findPlan_7 zN _ _ _ hl0 _ e3 ?_
  refine x_iconst (pc := 49) dX9_findPlan_49 (v := 0) rfl ?_
  refine x_istore_n (pc := 50) dX9_findPlan_50 rfl (by decide) rfl ?_
  obtain ⟨M6, e5, h⟩ := ob h
  refine ex_weak (Ls2 := [.ref l0, .int 0]) ⟨Or.inr rfl, Or.inr rfl, trivial⟩ ?_
  refine LX_X9_findPlan_51 zN _ _ _ hl0 _ e5 ?_
  refine x_aload_n (pc := 95) dX9_findPlan_95 rfl rfl hl0 ?_
  obtain ⟨v7, e8, h⟩ := ob h
  refine y_getR (pc := 96) dX9_findPlan_96 zf_X9_72 e8 ?_
  refine x_aload_n (pc := 99) dX9_findPlan_99 rfl rfl hl0 ?_
  obtain ⟨v9, e10, h⟩ := ob h
  refine y_getI (pc := 100) dX9_findPlan_100 zf_X9_347 e10 (by decide) ?_
  refine x_iconst (pc := 103) dX9_findPlan_103 (v := 0) rfl ?_
  obtain ⟨M11, e12, h⟩ := ob h
  refine y_iast (pc := 104) dX9_findPlan_104 e12 ?_
  refine x_aload_n (pc := 105) dX9_findPlan_105 rfl rfl hl0 ?_
  obtain ⟨v13, e14, h⟩ := ob h
  refine y_getI (pc := 106) dX9_findPlan_106 zf_X9_347 e14 (by decide) ?_
  refine x_iconst (pc := 109) dX9_findPlan_109 (v := 1) rfl ?_
  refine x_isub (pc := 110) dX9_findPlan_110 ?_
  refine x_istore_n (pc := 111) dX9_findPlan_111 rfl (by decide) rfl ?_
  obtain ⟨M16, e15, h⟩ := ob h
  refine ex_weak (Ls2 := [.ref l0, .int (v13 - 1)]) ⟨Or.inr rfl, Or.inr rfl, trivial⟩ ?_
  refine LX_X9_findPlan_112 zN _ _ _ hl0 _ e15 ?_
  refine x_aload_n (pc := 147) dX9_findPlan_147 rfl rfl hl0 ?_
  refine x_iconst (pc := 148) dX9_findPlan_148 (v := 0) rfl ?_
  obtain ⟨M17, e18, h⟩ := ob h
  refine y_putI (pc := 149) dX9_findPlan_149 zf_X9_331 e18 ?_
  refine x_aload_n (pc := 152) dX9_findPlan_152 rfl rfl hl0 ?_
  refine x_iconst (pc := 153) dX9_findPlan_153 (v := 0) rfl ?_
  obtain ⟨M19, e20, h⟩ := ob h
  refine y_putI (pc := 154) dX9_findPlan_154 zf_X9_325 e20 ?_
  refine x_aload_n (pc := 157) dX9_findPlan_157 rfl rfl hl0 ?_
  refine x_iconst (pc := 158) dX9_findPlan_158 (v := (-1)) rfl ?_
  obtain ⟨M21, e22, h⟩ := ob h
  refine y_putI (pc := 159) dX9_findPlan_159 zf_X9_341 e22 ?_
  refine x_aload_n (pc := 162) dX9_findPlan_162 rfl rfl hl0 ?_
  refine x_iconst (pc := 163) dX9_findPlan_163 (v := 0) rfl ?_
  obtain ⟨M23, e24, h⟩ := ob h
  refine y_putI (pc := 164) dX9_findPlan_164 zf_X9_344 e24 ?_
  refine x_aload_n (pc := 167) dX9_findPlan_167 rfl rfl hl0 ?_
  obtain ⟨v25, e26, h⟩ := ob h
  refine y_getR (pc := 168) dX9_findPlan_168 zf_X9_75 e26 ?_
  refine x_iconst (pc := 171) dX9_findPlan_171 (v := 0) rfl ?_
  refine x_iconst (pc := 172) dX9_findPlan_172 (v := (-1)) rfl ?_
  obtain ⟨M27, e28, h⟩ := ob h
  refine y_iast (pc := 173) dX9_findPlan_173 e28 ?_
  refine x_iconst (pc := 174) dX9_findPlan_174 (v := 0) rfl ?_
  refine x_istore_n (pc := 175) dX9_findPlan_175 rfl (by decide) rfl ?_
  obtain ⟨M30, e29, h⟩ := ob h
  refine ex_weak (Ls2 := [.ref l0, .int 0]) ⟨Or.inr rfl, Or.inr rfl, trivial⟩ ?_
  refine LX_X9_findPlan_176 zN _ _ _ hl0 _ e29 ?_
  obtain rfl := s1 h
  exact x_vret (pc := 287) dX9_findPlan_287 rfl
def L_X9_plan_51 : Nat → Nat → Int32 → Int32 → Int32 → zM → Option (Int32)
  | 0, _, _, _, _, _ => none
  | n + 1, l0, l1, l2, l3, M => (oI M l0 9 58 35).bind fun v8 => if v8 ≤ l3 then (some l2) else ((oR M l0 9 58 36).bind fun v11 => (aI M v11 l3).bind fun v13 => if v13 = l1 then ((oR M l0 9 58 43).bind fun v16 => (aI M v16 l3).bind fun v18 => L_X9_plan_51 n l0 l1 v18 (l3 + 1) M) else (L_X9_plan_51 n l0 l1 l2 (l3 + 1) M))
def f_X9_plan (l0 : Nat) (l1 : Int32) (M : zM) : Option (Int32 × zM) := bif Nat.ble 1 l0 then (bif zac M l0 9 58 then ((f_X9_isNeed l0 l1 M).bind fun r1 => if r1 = 0 then (if l1 = (-1) then (bif zac M l0 9 58 then ((f_X9_findPlan l0 M).bind fun M5 => if 0 ≤ l1 then ((L_X9_plan_51 zN l0 l1 (-1) 0 M5).bind fun v9 => some (v9, M5)) else ((oI M5 l0 9 58 44).bind fun v11 => some (v11, M5))) else none) else (if l1 = (-2) then (bif zac M l0 9 58 then ((f_X9_findPlan l0 M).bind fun M15 => if 0 ≤ l1 then ((L_X9_plan_51 zN l0 l1 (-1) 0 M15).bind fun v19 => some (v19, M15)) else ((oI M15 l0 9 58 45).bind fun v21 => some (v21, M15))) else none) else (some ((-1000000001), M)))) else (bif zac M l0 9 58 then ((f_X9_findPlan l0 M).bind fun M24 => if 0 ≤ l1 then ((L_X9_plan_51 zN l0 l1 (-1) 0 M24).bind fun v28 => some (v28, M24)) else (if l1 = (-1) then ((oI M24 l0 9 58 44).bind fun v30 => some (v30, M24)) else ((oI M24 l0 9 58 45).bind fun v32 => some (v32, M24)))) else none)) else none) else none
theorem LX_X9_plan_51 {G : zG} {d : Nat} : ∀ (n : Nat) (l0 : Nat) (l1 : Int32) (l2 : Int32) (l3 : Int32) (M : zM) (hl0 : l0 ≠ 0) (o2 : Int32) {res : Option Value × zM}, L_X9_plan_51 n l0 l1 l2 l3 M = some o2 → Ex G (d + 5) yX9_plan cX9_plan 4 (some .int) 86 [.null, .null, .int o2, .null] [] M res → Ex G (d + 5) yX9_plan cX9_plan 4 (some .int) 51 [.ref l0, .int l1, .int l2, .int l3] [] M res := by
  intro n
  induction n with
  | zero =>
    intro l0 l1 l2 l3 M hl0 o2 res h K
    simp [L_X9_plan_51] at h
  | succ n ih =>
    intro l0 l1 l2 l3 M hl0 o2 res h K
    simp only [L_X9_plan_51] at h
    refine x_iload_n (pc := 51) dX9_plan_51 rfl rfl ?_
    refine x_aload_n (pc := 52) dX9_plan_52 rfl rfl hl0 ?_
    obtain ⟨v8, e9, h⟩ := ob h
    refine y_getI (pc := 53) dX9_plan_53 zf_X9_347 e9 (by decide) ?_
    refine x_icmp_ge (pc := 56) dX9_plan_56 (t := 86) rfl (fun c10 => ?_) (fun c10 => ?_)
    · rw [if_pos c10] at h
      obtain rfl := s1 h
      refine ex_weak (Ls2 := [.null, .null, .int l2, .null]) ⟨Or.inl rfl, Or.inl rfl, Or.inr rfl, Or.inl rfl, trivial⟩ ?_
      exact K
    · rw [if_neg c10] at h
      refine x_aload_n (pc := 59) dX9_plan_59 rfl rfl hl0 ?_
      obtain ⟨v11, e12, h⟩ := ob h
      refine y_getR (pc := 60) dX9_plan_60 zf_X9_69 e12 ?_
      refine x_iload_n (pc := 63) dX9_plan_63 rfl rfl ?_
      obtain ⟨v13, e14, h⟩ := ob h
      refine y_iald (pc := 64) dX9_plan_64 e14 ?_
      refine x_iload_n (pc := 65) dX9_plan_65 rfl rfl ?_
      refine x_icmp_ne (pc := 66) dX9_plan_66 (t := 78) rfl (fun c15 => ?_) (fun c15 => ?_)
      · rw [if_neg c15] at h
        refine x_iload_n (pc := 78) dX9_plan_78 rfl rfl ?_
        refine x_istore_n (pc := 79) dX9_plan_79 rfl (by decide) rfl ?_
        refine x_iinc (pc := 80) dX9_plan_80 rfl rfl (by decide) rfl ?_
        refine x_goto (pc := 83) dX9_plan_83 (t := 51) rfl ?_
        refine ex_weak (Ls2 := [.ref l0, .int l1, .int l2, .int (l3 + 1)]) ⟨Or.inr rfl, Or.inr rfl, Or.inr rfl, Or.inr rfl, trivial⟩ ?_
        exact ih _ _ _ _ _ hl0 _ h K
      · rw [if_pos c15] at h
        refine x_aload_n (pc := 69) dX9_plan_69 rfl rfl hl0 ?_
        obtain ⟨v16, e17, h⟩ := ob h
        refine y_getR (pc := 70) dX9_plan_70 zf_X9_84 e17 ?_
        refine x_iload_n (pc := 73) dX9_plan_73 rfl rfl ?_
        obtain ⟨v18, e19, h⟩ := ob h
        refine y_iald (pc := 74) dX9_plan_74 e19 ?_
        refine x_goto (pc := 75) dX9_plan_75 (t := 79) rfl ?_
        refine x_istore_n (pc := 79) dX9_plan_79 rfl (by decide) rfl ?_
        refine x_iinc (pc := 80) dX9_plan_80 rfl rfl (by decide) rfl ?_
        refine x_goto (pc := 83) dX9_plan_83 (t := 51) rfl ?_
        refine ex_weak (Ls2 := [.ref l0, .int l1, .int v18, .int (l3 + 1)]) ⟨Or.inr rfl, Or.inr rfl, Or.inr rfl, Or.inr rfl, trivial⟩ ?_
        exact ih _ _ _ _ _ hl0 _ h K
theorem E_X9_plan {G : zG} {d : Nat} {l0 : Nat} {l1 : Int32} {M MR : zM} {r : Int32} (h : f_X9_plan l0 l1 M = some (r, MR)) : Ex G (d + 5) yX9_plan cX9_plan 4 (some .int) 0 (zent0 [.ref l0, .int l1] 4) [] M (some (.int r), MR) := by
  unfold f_X9_plan at h
  obtain ⟨zz0, h⟩ := bt h
  have hl0 := bz zz0
  show Ex _ _ _ _ _ _ 0 [.ref l0, .int l1, .null, .null] [] _ _
  refine x_aload_n (pc := 0) dX9_plan_0 rfl rfl hl0 ?_
  refine x_iload_n (pc := 1) dX9_plan_1 rfl rfl ?_
  obtain ⟨g35, h⟩ := bt h
  obtain ⟨r1, e2, h⟩ := ob h
  refine x_callV (av := [.int l1]) (st := []) (pc := 2) dX9_plan_2 (E_X9_isNeed (d := d + 3) e2) rfl (Nat.le_of_ble_eq_true rfl) zc_X9_isNeed rfl zm_X9_246 zi_X9_isNeed zs_X9_isNeed (zac_ok g35) (by decide) rfl rfl (zst_ok rfl (Nat.le_of_ble_eq_true rfl)) rfl ?_
  refine x_if_ne (pc := 5) dX9_plan_5 (t := 22) rfl (fun c3 => ?_) (fun c3 => ?_)
  · rw [if_neg c3] at h
    refine x_aload_n (pc := 22) dX9_plan_22 rfl rfl hl0 ?_
    obtain ⟨g34, h⟩ := bt h
    obtain ⟨M24, e25, h⟩ := ob h
    refine x_callV (av := []) (st := []) (pc := 23) dX9_plan_23 (E_X9_findPlan (d := d) e25) rfl (Nat.le_of_ble_eq_true rfl) zc_X9_findPlan rfl zm_X9_356 zi_X9_findPlan zs_X9_findPlan (zac_ok g34) (by decide) rfl rfl (zst_ok rfl (Nat.le_of_ble_eq_true rfl)) rfl ?_
    refine x_iload_n (pc := 26) dX9_plan_26 rfl rfl ?_
    refine x_if_ge (pc := 27) dX9_plan_27 (t := 47) rfl (fun c26 => ?_) (fun c26 => ?_)
    · rw [if_pos c26] at h
      refine x_iconst (pc := 47) dX9_plan_47 (v := (-1)) rfl ?_
      refine x_istore_n (pc := 48) dX9_plan_48 rfl (by decide) rfl ?_
      refine x_iconst (pc := 49) dX9_plan_49 (v := 0) rfl ?_
      refine x_istore_n (pc := 50) dX9_plan_50 rfl (by decide) rfl ?_
      obtain ⟨v28, e27, h⟩ := ob h
      refine ex_weak (Ls2 := [.ref l0, .int l1, .int (-1), .int 0]) ⟨Or.inr rfl, Or.inr rfl, Or.inr rfl, Or.inr rfl, trivial⟩ ?_
      refine LX_X9_plan_51 zN _ _ _ _ _ hl0 _ e27 ?_
      refine x_iload_n (pc := 86) dX9_plan_86 rfl rfl ?_
      obtain ⟨rfl, rfl⟩ := s2 h
      exact y_retI (pc := 87) dX9_plan_87 rfl
    · rw [if_neg c26] at h
      refine x_iload_n (pc := 30) dX9_plan_30 rfl rfl ?_
      refine x_iconst (pc := 31) dX9_plan_31 (v := (-1)) rfl ?_
      refine x_icmp_ne (pc := 32) dX9_plan_32 (t := 42) rfl (fun c29 => ?_) (fun c29 => ?_)
      · rw [if_neg c29] at h
        refine x_aload_n (pc := 42) dX9_plan_42 rfl rfl hl0 ?_
        obtain ⟨v32, e33, h⟩ := ob h
        refine y_getI (pc := 43) dX9_plan_43 zf_X9_344 e33 (by decide) ?_
        obtain ⟨rfl, rfl⟩ := s2 h
        exact y_retI (pc := 46) dX9_plan_46 rfl
      · rw [if_pos c29] at h
        refine x_aload_n (pc := 35) dX9_plan_35 rfl rfl hl0 ?_
        obtain ⟨v30, e31, h⟩ := ob h
        refine y_getI (pc := 36) dX9_plan_36 zf_X9_341 e31 (by decide) ?_
        refine x_goto (pc := 39) dX9_plan_39 (t := 46) rfl ?_
        obtain ⟨rfl, rfl⟩ := s2 h
        exact y_retI (pc := 46) dX9_plan_46 rfl
  · rw [if_pos c3] at h
    refine x_iload_n (pc := 8) dX9_plan_8 rfl rfl ?_
    refine x_iconst (pc := 9) dX9_plan_9 (v := (-1)) rfl ?_
    refine x_icmp_eq (pc := 10) dX9_plan_10 (t := 22) rfl (fun c4 => ?_) (fun c4 => ?_)
    · rw [if_pos c4] at h
      refine x_aload_n (pc := 22) dX9_plan_22 rfl rfl hl0 ?_
      obtain ⟨g13, h⟩ := bt h
      obtain ⟨M5, e6, h⟩ := ob h
      refine x_callV (av := []) (st := []) (pc := 23) dX9_plan_23 (E_X9_findPlan (d := d) e6) rfl (Nat.le_of_ble_eq_true rfl) zc_X9_findPlan rfl zm_X9_356 zi_X9_findPlan zs_X9_findPlan (zac_ok g13) (by decide) rfl rfl (zst_ok rfl (Nat.le_of_ble_eq_true rfl)) rfl ?_
      refine x_iload_n (pc := 26) dX9_plan_26 rfl rfl ?_
      refine x_if_ge (pc := 27) dX9_plan_27 (t := 47) rfl (fun c7 => ?_) (fun c7 => ?_)
      · rw [if_pos c7] at h
        refine x_iconst (pc := 47) dX9_plan_47 (v := (-1)) rfl ?_
        refine x_istore_n (pc := 48) dX9_plan_48 rfl (by decide) rfl ?_
        refine x_iconst (pc := 49) dX9_plan_49 (v := 0) rfl ?_
        refine x_istore_n (pc := 50) dX9_plan_50 rfl (by decide) rfl ?_
        obtain ⟨v9, e8, h⟩ := ob h
        refine ex_weak (Ls2 := [.ref l0, .int l1, .int (-1), .int 0]) ⟨Or.inr rfl, Or.inr rfl, Or.inr rfl, Or.inr rfl, trivial⟩ ?_
        refine LX_X9_plan_51 zN _ _ _ _ _ hl0 _ e8 ?_
        refine x_iload_n (pc := 86) dX9_plan_86 rfl rfl ?_
        obtain ⟨rfl, rfl⟩ := s2 h
        exact y_retI (pc := 87) dX9_plan_87 rfl
      · rw [if_neg c7] at h
        refine x_iload_n (pc := 30) dX9_plan_30 rfl rfl ?_
        refine x_iconst (pc := 31) dX9_plan_31 (v := (-1)) rfl ?_
        refine x_icmp_ne (pc := 32) dX9_plan_32 (t := 42) rfl (fun c10 => ?_) (fun c10 => ?_)
        · exact absurd c4 c10
        · refine x_aload_n (pc := 35) dX9_plan_35 rfl rfl hl0 ?_
          obtain ⟨v11, e12, h⟩ := ob h
          refine y_getI (pc := 36) dX9_plan_36 zf_X9_341 e12 (by decide) ?_
          refine x_goto (pc := 39) dX9_plan_39 (t := 46) rfl ?_
          obtain ⟨rfl, rfl⟩ := s2 h
          exact y_retI (pc := 46) dX9_plan_46 rfl
    · rw [if_neg c4] at h
      refine x_iload_n (pc := 13) dX9_plan_13 rfl rfl ?_
      refine x_bipush (pc := 14) dX9_plan_14 (v := (-2)) (by decide) ?_
      refine x_icmp_eq (pc := 16) dX9_plan_16 (t := 22) rfl (fun c14 => ?_) (fun c14 => ?_)
      · rw [if_pos c14] at h
        refine x_aload_n (pc := 22) dX9_plan_22 rfl rfl hl0 ?_
        obtain ⟨g23, h⟩ := bt h
        obtain ⟨M15, e16, h⟩ := ob h
        refine x_callV (av := []) (st := []) (pc := 23) dX9_plan_23 (E_X9_findPlan (d := d) e16) rfl (Nat.le_of_ble_eq_true rfl) zc_X9_findPlan rfl zm_X9_356 zi_X9_findPlan zs_X9_findPlan (zac_ok g23) (by decide) rfl rfl (zst_ok rfl (Nat.le_of_ble_eq_true rfl)) rfl ?_
        refine x_iload_n (pc := 26) dX9_plan_26 rfl rfl ?_
        refine x_if_ge (pc := 27) dX9_plan_27 (t := 47) rfl (fun c17 => ?_) (fun c17 => ?_)
        · rw [if_pos c17] at h
          refine x_iconst (pc := 47) dX9_plan_47 (v := (-1)) rfl ?_
          refine x_istore_n (pc := 48) dX9_plan_48 rfl (by decide) rfl ?_
          refine x_iconst (pc := 49) dX9_plan_49 (v := 0) rfl ?_
          refine x_istore_n (pc := 50) dX9_plan_50 rfl (by decide) rfl ?_
          obtain ⟨v19, e18, h⟩ := ob h
          refine ex_weak (Ls2 := [.ref l0, .int l1, .int (-1), .int 0]) ⟨Or.inr rfl, Or.inr rfl, Or.inr rfl, Or.inr rfl, trivial⟩ ?_
          refine LX_X9_plan_51 zN _ _ _ _ _ hl0 _ e18 ?_
          refine x_iload_n (pc := 86) dX9_plan_86 rfl rfl ?_
          obtain ⟨rfl, rfl⟩ := s2 h
          exact y_retI (pc := 87) dX9_plan_87 rfl
        · rw [if_neg c17] at h
          refine x_iload_n (pc := 30) dX9_plan_30 rfl rfl ?_
          refine x_iconst (pc := 31) dX9_plan_31 (v := (-1)) rfl ?_
          refine x_icmp_ne (pc := 32) dX9_plan_32 (t := 42) rfl (fun c20 => ?_) (fun c20 => ?_)
          · refine x_aload_n (pc := 42) dX9_plan_42 rfl rfl hl0 ?_
            obtain ⟨v21, e22, h⟩ := ob h
            refine y_getI (pc := 43) dX9_plan_43 zf_X9_344 e22 (by decide) ?_
            obtain ⟨rfl, rfl⟩ := s2 h
            exact y_retI (pc := 46) dX9_plan_46 rfl
          · exact absurd c20 c4
      · rw [if_neg c14] at h
        refine x_ldc (pc := 19) dX9_plan_19 zk_X9_238 ?_
        obtain ⟨rfl, rfl⟩ := s2 h
        exact y_retI (pc := 21) dX9_plan_21 rfl
def f_X9_isOf (l0 : Nat) (l1 : Int32) (l2 : Int32) (M : zM) : Option (Int32) := bif Nat.ble 1 l0 then (bif zac M l0 9 58 then ((f_X9_wordOf l0 l1 M).bind fun r1 => if r1 = l2 then (bif zac M l0 9 58 then ((f_X9_isToCome l0 l1 M).bind fun r4 => if r4 = 0 then (some 0) else (some 1)) else none) else (some 0)) else none) else none
theorem E_X9_isOf {G : zG} {d : Nat} {l0 : Nat} {l1 : Int32} {l2 : Int32} {M : zM} {r : Int32} (h : f_X9_isOf l0 l1 l2 M = some r) : Ex G (d + 2) yX9_isOf cX9_isOf 3 (some .boolean) 0 (zent0 [.ref l0, .int l1, .int l2] 3) [] M (some (.int r), M) := by
  unfold f_X9_isOf at h
  obtain ⟨zz0, h⟩ := bt h
  have hl0 := bz zz0
  show Ex _ _ _ _ _ _ 0 [.ref l0, .int l1, .int l2] [] _ _
  refine x_aload_n (pc := 0) dX9_isOf_0 rfl rfl hl0 ?_
  refine x_iload_n (pc := 1) dX9_isOf_1 rfl rfl ?_
  obtain ⟨g8, h⟩ := bt h
  obtain ⟨r1, e2, h⟩ := ob h
  refine x_callV (av := [.int l1]) (st := []) (pc := 2) dX9_isOf_2 (E_X9_wordOf (d := d + 1) e2) rfl (Nat.le_of_ble_eq_true rfl) zc_X9_wordOf rfl zm_X9_268 zi_X9_wordOf zs_X9_wordOf (zac_ok g8) (by decide) rfl rfl (zst_ok rfl (Nat.le_of_ble_eq_true rfl)) rfl ?_
  refine x_iload_n (pc := 5) dX9_isOf_5 rfl rfl ?_
  refine x_icmp_ne (pc := 6) dX9_isOf_6 (t := 21) rfl (fun c3 => ?_) (fun c3 => ?_)
  · rw [if_neg c3] at h
    refine x_iconst (pc := 21) dX9_isOf_21 (v := 0) rfl ?_
    obtain rfl := s1 h
    exact x_ret (pc := 22) dX9_isOf_22 (ty := .boolean) rfl rfl
  · rw [if_pos c3] at h
    refine x_aload_n (pc := 9) dX9_isOf_9 rfl rfl hl0 ?_
    refine x_iload_n (pc := 10) dX9_isOf_10 rfl rfl ?_
    obtain ⟨g7, h⟩ := bt h
    obtain ⟨r4, e5, h⟩ := ob h
    refine x_callV (av := [.int l1]) (st := []) (pc := 11) dX9_isOf_11 (E_X9_isToCome (d := d) e5) rfl (Nat.le_of_ble_eq_true rfl) zc_X9_isToCome rfl zm_X9_251 zi_X9_isToCome zs_X9_isToCome (zac_ok g7) (by decide) rfl rfl (zst_ok rfl (Nat.le_of_ble_eq_true rfl)) rfl ?_
    refine x_if_eq (pc := 14) dX9_isOf_14 (t := 21) rfl (fun c6 => ?_) (fun c6 => ?_)
    · rw [if_pos c6] at h
      refine x_iconst (pc := 21) dX9_isOf_21 (v := 0) rfl ?_
      obtain rfl := s1 h
      exact x_ret (pc := 22) dX9_isOf_22 (ty := .boolean) rfl rfl
    · rw [if_neg c6] at h
      refine x_iconst (pc := 17) dX9_isOf_17 (v := 1) rfl ?_
      refine x_goto (pc := 18) dX9_isOf_18 (t := 22) rfl ?_
      obtain rfl := s1 h
      exact x_ret (pc := 22) dX9_isOf_22 (ty := .boolean) rfl rfl
def L_X9_needsOf_5 : Nat → Nat → Int32 → Int32 → Int32 → Int32 → zM → Option (Int32)
  | 0, _, _, _, _, _, _ => none
  | n + 1, l0, l1, l2, l3, l4, M => (oI M l0 9 58 8).bind fun v1 => if v1 ≤ l4 then (some l3) else (bif zac M l0 9 58 then ((f_X9_isOf l0 l4 l2 M).bind fun r4 => if r4 = 0 then (L_X9_needsOf_5 n l0 l1 l2 (l3 + 0) (l4 + 1) M) else (bif zac M l0 9 58 then ((f_X9_person l0 l4 M).bind fun r7 => if r7 = l1 then (L_X9_needsOf_5 n l0 l1 l2 (l3 + 1) (l4 + 1) M) else (L_X9_needsOf_5 n l0 l1 l2 (l3 + 0) (l4 + 1) M)) else none)) else none)
def f_X9_needsOf (l0 : Nat) (l1 : Int32) (l2 : Int32) (M : zM) : Option (Int32) := bif Nat.ble 1 l0 then ((L_X9_needsOf_5 zN l0 l1 l2 0 0 M).bind fun v2 => some v2) else none
theorem LX_X9_needsOf_5 {G : zG} {d : Nat} : ∀ (n : Nat) (l0 : Nat) (l1 : Int32) (l2 : Int32) (l3 : Int32) (l4 : Int32) (M : zM) (hl0 : l0 ≠ 0) (o3 : Int32) {res : Option Value × zM}, L_X9_needsOf_5 n l0 l1 l2 l3 l4 M = some o3 → Ex G (d + 3) yX9_needsOf cX9_needsOf 5 (some .int) 48 [.null, .null, .null, .int o3, .null] [] M res → Ex G (d + 3) yX9_needsOf cX9_needsOf 5 (some .int) 5 [.ref l0, .int l1, .int l2, .int l3, .int l4] [] M res := by
  intro n
  induction n with
  | zero =>
    intro l0 l1 l2 l3 l4 M hl0 o3 res h K
    simp [L_X9_needsOf_5] at h
  | succ n ih =>
    intro l0 l1 l2 l3 l4 M hl0 o3 res h K
    simp only [L_X9_needsOf_5] at h
    refine x_iload (pc := 5) dX9_needsOf_5 rfl ?_
    refine x_aload_n (pc := 7) dX9_needsOf_7 rfl rfl hl0 ?_
    obtain ⟨v1, e2, h⟩ := ob h
    refine y_getI (pc := 8) dX9_needsOf_8 zf_X9_127 e2 (by decide) ?_
    refine x_icmp_ge (pc := 11) dX9_needsOf_11 (t := 48) rfl (fun c3 => ?_) (fun c3 => ?_)
    · rw [if_pos c3] at h
      obtain rfl := s1 h
      refine ex_weak (Ls2 := [.null, .null, .null, .int l3, .null]) ⟨Or.inl rfl, Or.inl rfl, Or.inl rfl, Or.inr rfl, Or.inl rfl, trivial⟩ ?_
      exact K
    · rw [if_neg c3] at h
      refine x_iload_n (pc := 14) dX9_needsOf_14 rfl rfl ?_
      refine x_aload_n (pc := 15) dX9_needsOf_15 rfl rfl hl0 ?_
      refine x_iload (pc := 16) dX9_needsOf_16 rfl ?_
      refine x_iload_n (pc := 18) dX9_needsOf_18 rfl rfl ?_
      obtain ⟨g11, h⟩ := bt h
      obtain ⟨r4, e5, h⟩ := ob h
      refine x_callV (av := [.int l4, .int l2]) (st := [.int l3]) (pc := 19) dX9_needsOf_19 (E_X9_isOf (d := d) e5) rfl (Nat.le_of_ble_eq_true rfl) zc_X9_isOf rfl zm_X9_359 zi_X9_isOf zs_X9_isOf (zac_ok g11) (by decide) rfl rfl (zst_ok rfl (Nat.le_of_ble_eq_true rfl)) rfl ?_
      refine x_if_eq (pc := 22) dX9_needsOf_22 (t := 39) rfl (fun c6 => ?_) (fun c6 => ?_)
      · rw [if_pos c6] at h
        refine x_iconst (pc := 39) dX9_needsOf_39 (v := 0) rfl ?_
        refine x_iadd (pc := 40) dX9_needsOf_40 ?_
        refine x_istore_n (pc := 41) dX9_needsOf_41 rfl (by decide) rfl ?_
        refine x_iinc (pc := 42) dX9_needsOf_42 rfl rfl (by decide) rfl ?_
        refine x_goto (pc := 45) dX9_needsOf_45 (t := 5) rfl ?_
        refine ex_weak (Ls2 := [.ref l0, .int l1, .int l2, .int (l3 + 0), .int (l4 + 1)]) ⟨Or.inr rfl, Or.inr rfl, Or.inr rfl, Or.inr rfl, Or.inr rfl, trivial⟩ ?_
        exact ih _ _ _ _ _ _ hl0 _ h K
      · rw [if_neg c6] at h
        refine x_aload_n (pc := 25) dX9_needsOf_25 rfl rfl hl0 ?_
        refine x_iload (pc := 26) dX9_needsOf_26 rfl ?_
        obtain ⟨g10, h⟩ := bt h
        obtain ⟨r7, e8, h⟩ := ob h
        refine x_callV (av := [.int l4]) (st := [.int l3]) (pc := 28) dX9_needsOf_28 (E_X9_person (d := d + 2) e8) rfl (Nat.le_of_ble_eq_true rfl) zc_X9_person rfl zm_X9_265 zi_X9_person zs_X9_person (zac_ok g10) (by decide) rfl rfl (zst_ok rfl (Nat.le_of_ble_eq_true rfl)) rfl ?_
        refine x_iload_n (pc := 31) dX9_needsOf_31 rfl rfl ?_
        refine x_icmp_ne (pc := 32) dX9_needsOf_32 (t := 39) rfl (fun c9 => ?_) (fun c9 => ?_)
        · rw [if_neg c9] at h
          refine x_iconst (pc := 39) dX9_needsOf_39 (v := 0) rfl ?_
          refine x_iadd (pc := 40) dX9_needsOf_40 ?_
          refine x_istore_n (pc := 41) dX9_needsOf_41 rfl (by decide) rfl ?_
          refine x_iinc (pc := 42) dX9_needsOf_42 rfl rfl (by decide) rfl ?_
          refine x_goto (pc := 45) dX9_needsOf_45 (t := 5) rfl ?_
          refine ex_weak (Ls2 := [.ref l0, .int l1, .int l2, .int (l3 + 0), .int (l4 + 1)]) ⟨Or.inr rfl, Or.inr rfl, Or.inr rfl, Or.inr rfl, Or.inr rfl, trivial⟩ ?_
          exact ih _ _ _ _ _ _ hl0 _ h K
        · rw [if_pos c9] at h
          refine x_iconst (pc := 35) dX9_needsOf_35 (v := 1) rfl ?_
          refine x_goto (pc := 36) dX9_needsOf_36 (t := 40) rfl ?_
          refine x_iadd (pc := 40) dX9_needsOf_40 ?_
          refine x_istore_n (pc := 41) dX9_needsOf_41 rfl (by decide) rfl ?_
          refine x_iinc (pc := 42) dX9_needsOf_42 rfl rfl (by decide) rfl ?_
          refine x_goto (pc := 45) dX9_needsOf_45 (t := 5) rfl ?_
          refine ex_weak (Ls2 := [.ref l0, .int l1, .int l2, .int (l3 + 1), .int (l4 + 1)]) ⟨Or.inr rfl, Or.inr rfl, Or.inr rfl, Or.inr rfl, Or.inr rfl, trivial⟩ ?_
          exact ih _ _ _ _ _ _ hl0 _ h K
theorem E_X9_needsOf {G : zG} {d : Nat} {l0 : Nat} {l1 : Int32} {l2 : Int32} {M : zM} {r : Int32} (h : f_X9_needsOf l0 l1 l2 M = some r) : Ex G (d + 3) yX9_needsOf cX9_needsOf 5 (some .int) 0 (zent0 [.ref l0, .int l1, .int l2] 5) [] M (some (.int r), M) := by
  unfold f_X9_needsOf at h
  obtain ⟨zz0, h⟩ := bt h
  have hl0 := bz zz0
  show Ex _ _ _ _ _ _ 0 [.ref l0, .int l1, .int l2, .null, .null] [] _ _
  refine x_iconst (pc := 0) dX9_needsOf_0 (v := 0) rfl ?_
  refine x_istore_n (pc := 1) dX9_needsOf_1 rfl (by decide) rfl ?_
  refine x_iconst (pc := 2) dX9_needsOf_2 (v := 0) rfl ?_
  refine x_istore (pc := 3) dX9_needsOf_3 (by decide) rfl ?_
  obtain ⟨v2, e1, h⟩ := ob h
  refine ex_weak (Ls2 := [.ref l0, .int l1, .int l2, .int 0, .int 0]) ⟨Or.inr rfl, Or.inr rfl, Or.inr rfl, Or.inr rfl, Or.inr rfl, trivial⟩ ?_
  refine LX_X9_needsOf_5 zN _ _ _ _ _ _ hl0 _ e1 ?_
  refine x_iload_n (pc := 48) dX9_needsOf_48 rfl rfl ?_
  obtain rfl := s1 h
  exact y_retI (pc := 49) dX9_needsOf_49 rfl
def L_X9_price_44 : Nat → Nat → Int32 → Int32 → Int32 → Int32 → Int32 → zM → Option (Int32)
  | 0, _, _, _, _, _, _, _ => none
  | n + 1, l0, l1, l2, l3, l4, l5, M => (oI M l0 9 58 8).bind fun v13 => if v13 ≤ l5 then (some l4) else (bif zac M l0 9 58 then ((f_X9_isOf l0 l5 l1 M).bind fun r16 => if r16 = 0 then (L_X9_price_44 n l0 l1 l2 l3 (l4 + 0) (l5 + 1) M) else (bif zac M l0 9 58 then ((f_X9_worthOf l0 l5 M).bind fun r19 => if r19 < l3 then (L_X9_price_44 n l0 l1 l2 l3 (l4 + 0) (l5 + 1) M) else (L_X9_price_44 n l0 l1 l2 l3 (l4 + 1) (l5 + 1) M)) else none)) else none)
def L_X9_price_34 : Nat → Nat → Int32 → Int32 → Int32 → zM → Option ((Int32) ⊕ (Unit))
  | 0, _, _, _, _, _ => none
  | n + 1, l0, l1, l2, l3, M => if l3 ≤ 0 then (some (.inr ())) else ((L_X9_price_44 zN l0 l1 l2 l3 0 0 M).bind fun v14 => if v14 ≤ l2 then (L_X9_price_34 n l0 l1 l2 (l3 + (-1)) M) else (some (.inl l3)))
def f_X9_price (l0 : Nat) (l1 : Int32) (M : zM) : Option (Int32) := bif Nat.ble 1 l0 then (bif zac M l0 9 58 then ((f_X9_isWord l0 l1 M).bind fun r1 => if r1 = 0 then (some (-1000000001)) else ((oR M l0 9 58 0).bind fun v4 => (aI M v4 (13 + l1)).bind fun v6 => (oR M l0 9 58 0).bind fun v8 => bif zac M l0 9 58 then ((f_X9_hoardedOf l0 v8 l1 M).bind fun r10 => bs (L_X9_price_34 zN l0 l1 (v6 + r10) 99 M) some (fun _ => some 0)) else none)) else none) else none
theorem LX_X9_price_44 {G : zG} {d : Nat} : ∀ (n : Nat) (l0 : Nat) (l1 : Int32) (l2 : Int32) (l3 : Int32) (l4 : Int32) (l5 : Int32) (M : zM) (hl0 : l0 ≠ 0) (o4 : Int32) {res : Option Value × zM}, L_X9_price_44 n l0 l1 l2 l3 l4 l5 M = some o4 → Ex G (d + 3) yX9_price cX9_price 6 (some .int) 89 [.ref l0, .int l1, .int l2, .int l3, .int o4, .null] [] M res → Ex G (d + 3) yX9_price cX9_price 6 (some .int) 44 [.ref l0, .int l1, .int l2, .int l3, .int l4, .int l5] [] M res := by
  intro n
  induction n with
  | zero =>
    intro l0 l1 l2 l3 l4 l5 M hl0 o4 res h K
    simp [L_X9_price_44] at h
  | succ n ih =>
    intro l0 l1 l2 l3 l4 l5 M hl0 o4 res h K
    simp only [L_X9_price_44] at h
    refine x_iload (pc := 44) dX9_price_44 rfl ?_
    refine x_aload_n (pc := 46) dX9_price_46 rfl rfl hl0 ?_
    obtain ⟨v13, e14, h⟩ := ob h
    refine y_getI (pc := 47) dX9_price_47 zf_X9_127 e14 (by decide) ?_
    refine x_icmp_ge (pc := 50) dX9_price_50 (t := 89) rfl (fun c15 => ?_) (fun c15 => ?_)
    · rw [if_pos c15] at h
      obtain rfl := s1 h
      refine ex_weak (Ls2 := [.ref l0, .int l1, .int l2, .int l3, .int l4, .null]) ⟨Or.inr rfl, Or.inr rfl, Or.inr rfl, Or.inr rfl, Or.inr rfl, Or.inl rfl, trivial⟩ ?_
      exact K
    · rw [if_neg c15] at h
      refine x_iload (pc := 53) dX9_price_53 rfl ?_
      refine x_aload_n (pc := 55) dX9_price_55 rfl rfl hl0 ?_
      refine x_iload (pc := 56) dX9_price_56 rfl ?_
      refine x_iload_n (pc := 58) dX9_price_58 rfl rfl ?_
      obtain ⟨g23, h⟩ := bt h
      obtain ⟨r16, e17, h⟩ := ob h
      refine x_callV (av := [.int l5, .int l1]) (st := [.int l4]) (pc := 59) dX9_price_59 (E_X9_isOf (d := d) e17) rfl (Nat.le_of_ble_eq_true rfl) zc_X9_isOf rfl zm_X9_359 zi_X9_isOf zs_X9_isOf (zac_ok g23) (by decide) rfl rfl (zst_ok rfl (Nat.le_of_ble_eq_true rfl)) rfl ?_
      refine x_if_eq (pc := 62) dX9_price_62 (t := 79) rfl (fun c18 => ?_) (fun c18 => ?_)
      · rw [if_pos c18] at h
        refine x_iconst (pc := 79) dX9_price_79 (v := 0) rfl ?_
        refine x_iadd (pc := 80) dX9_price_80 ?_
        refine x_istore (pc := 81) dX9_price_81 (by decide) rfl ?_
        refine x_iinc (pc := 83) dX9_price_83 rfl rfl (by decide) rfl ?_
        refine x_goto (pc := 86) dX9_price_86 (t := 44) rfl ?_
        refine ex_weak (Ls2 := [.ref l0, .int l1, .int l2, .int l3, .int (l4 + 0), .int (l5 + 1)]) ⟨Or.inr rfl, Or.inr rfl, Or.inr rfl, Or.inr rfl, Or.inr rfl, Or.inr rfl, trivial⟩ ?_
        exact ih _ _ _ _ _ _ _ hl0 _ h K
      · rw [if_neg c18] at h
        refine x_aload_n (pc := 65) dX9_price_65 rfl rfl hl0 ?_
        refine x_iload (pc := 66) dX9_price_66 rfl ?_
        obtain ⟨g22, h⟩ := bt h
        obtain ⟨r19, e20, h⟩ := ob h
        refine x_callV (av := [.int l5]) (st := [.int l4]) (pc := 68) dX9_price_68 (E_X9_worthOf (d := d + 2) e20) rfl (Nat.le_of_ble_eq_true rfl) zc_X9_worthOf rfl zm_X9_281 zi_X9_worthOf zs_X9_worthOf (zac_ok g22) (by decide) rfl rfl (zst_ok rfl (Nat.le_of_ble_eq_true rfl)) rfl ?_
        refine x_iload_n (pc := 71) dX9_price_71 rfl rfl ?_
        refine x_icmp_lt (pc := 72) dX9_price_72 (t := 79) rfl (fun c21 => ?_) (fun c21 => ?_)
        · rw [if_pos c21] at h
          refine x_iconst (pc := 79) dX9_price_79 (v := 0) rfl ?_
          refine x_iadd (pc := 80) dX9_price_80 ?_
          refine x_istore (pc := 81) dX9_price_81 (by decide) rfl ?_
          refine x_iinc (pc := 83) dX9_price_83 rfl rfl (by decide) rfl ?_
          refine x_goto (pc := 86) dX9_price_86 (t := 44) rfl ?_
          refine ex_weak (Ls2 := [.ref l0, .int l1, .int l2, .int l3, .int (l4 + 0), .int (l5 + 1)]) ⟨Or.inr rfl, Or.inr rfl, Or.inr rfl, Or.inr rfl, Or.inr rfl, Or.inr rfl, trivial⟩ ?_
          exact ih _ _ _ _ _ _ _ hl0 _ h K
        · rw [if_neg c21] at h
          refine x_iconst (pc := 75) dX9_price_75 (v := 1) rfl ?_
          refine x_goto (pc := 76) dX9_price_76 (t := 80) rfl ?_
          refine x_iadd (pc := 80) dX9_price_80 ?_
          refine x_istore (pc := 81) dX9_price_81 (by decide) rfl ?_
          refine x_iinc (pc := 83) dX9_price_83 rfl rfl (by decide) rfl ?_
          refine x_goto (pc := 86) dX9_price_86 (t := 44) rfl ?_
          refine ex_weak (Ls2 := [.ref l0, .int l1, .int l2, .int l3, .int (l4 + 1), .int (l5 + 1)]) ⟨Or.inr rfl, Or.inr rfl, Or.inr rfl, Or.inr rfl, Or.inr rfl, Or.inr rfl, trivial⟩ ?_
          exact ih _ _ _ _ _ _ _ hl0 _ h K
theorem LX_X9_price_34 {G : zG} {d : Nat} : ∀ (n : Nat) (l0 : Nat) (l1 : Int32) (l2 : Int32) (l3 : Int32) (M : zM) (hl0 : l0 ≠ 0) (e : (Int32) ⊕ (Unit)) {res : Option Value × zM}, L_X9_price_34 n l0 l1 l2 l3 M = some e → (∀ r, e = .inl r → res = (some (.int r), M)) → (e = .inr () → Ex G (d + 3) yX9_price cX9_price 6 (some .int) 103 [.null, .null, .null, .null, .null, .null] [] M res) → Ex G (d + 3) yX9_price cX9_price 6 (some .int) 34 [.ref l0, .int l1, .int l2, .int l3, .null, .null] [] M res := by
  intro n
  induction n with
  | zero =>
    intro l0 l1 l2 l3 M hl0 e res h K1 K2
    simp [L_X9_price_34] at h
  | succ n ih =>
    intro l0 l1 l2 l3 M hl0 e res h K1 K2
    simp only [L_X9_price_34] at h
    refine x_iload_n (pc := 34) dX9_price_34 rfl rfl ?_
    refine x_if_le (pc := 35) dX9_price_35 (t := 103) rfl (fun c12 => ?_) (fun c12 => ?_)
    · rw [if_pos c12] at h
      obtain rfl := s1 h
      refine ex_weak (Ls2 := [.null, .null, .null, .null, .null, .null]) ⟨Or.inl rfl, Or.inl rfl, Or.inl rfl, Or.inl rfl, Or.inl rfl, Or.inl rfl, trivial⟩ ?_
      exact K2  rfl
    · rw [if_neg c12] at h
      refine x_iconst (pc := 38) dX9_price_38 (v := 0) rfl ?_
      refine x_istore (pc := 39) dX9_price_39 (by decide) rfl ?_
      refine x_iconst (pc := 41) dX9_price_41 (v := 0) rfl ?_
      refine x_istore (pc := 42) dX9_price_42 (by decide) rfl ?_
      obtain ⟨v14, e13, h⟩ := ob h
      refine ex_weak (Ls2 := [.ref l0, .int l1, .int l2, .int l3, .int 0, .int 0]) ⟨Or.inr rfl, Or.inr rfl, Or.inr rfl, Or.inr rfl, Or.inr rfl, Or.inr rfl, trivial⟩ ?_
      refine LX_X9_price_44 zN _ _ _ _ _ _ _ hl0 _ e13 ?_
      refine x_iload (pc := 89) dX9_price_89 rfl ?_
      refine x_iload_n (pc := 91) dX9_price_91 rfl rfl ?_
      refine x_icmp_le (pc := 92) dX9_price_92 (t := 97) rfl (fun c15 => ?_) (fun c15 => ?_)
      · rw [if_pos c15] at h
        refine x_iinc (pc := 97) dX9_price_97 rfl rfl (by decide) rfl ?_
        refine x_goto (pc := 100) dX9_price_100 (t := 34) rfl ?_
        refine ex_weak (Ls2 := [.ref l0, .int l1, .int l2, .int (l3 + (-1)), .null, .null]) ⟨Or.inr rfl, Or.inr rfl, Or.inr rfl, Or.inr rfl, Or.inl rfl, Or.inl rfl, trivial⟩ ?_
        exact ih _ _ _ _ _ hl0 _ h K1 K2
      · rw [if_neg c15] at h
        refine x_iload_n (pc := 95) dX9_price_95 rfl rfl ?_
        obtain rfl := s1 h
        rw [K1 _ rfl]
        exact y_retI (pc := 96) dX9_price_96 rfl
theorem E_X9_price {G : zG} {d : Nat} {l0 : Nat} {l1 : Int32} {M : zM} {r : Int32} (h : f_X9_price l0 l1 M = some r) : Ex G (d + 3) yX9_price cX9_price 6 (some .int) 0 (zent0 [.ref l0, .int l1] 6) [] M (some (.int r), M) := by
  unfold f_X9_price at h
  obtain ⟨zz0, h⟩ := bt h
  have hl0 := bz zz0
  show Ex _ _ _ _ _ _ 0 [.ref l0, .int l1, .null, .null, .null, .null] [] _ _
  refine x_aload_n (pc := 0) dX9_price_0 rfl rfl hl0 ?_
  refine x_iload_n (pc := 1) dX9_price_1 rfl rfl ?_
  obtain ⟨g15, h⟩ := bt h
  obtain ⟨r1, e2, h⟩ := ob h
  refine x_callV (av := [.int l1]) (st := []) (pc := 2) dX9_price_2 (E_X9_isWord (d := d + 1) e2) rfl (Nat.le_of_ble_eq_true rfl) zc_X9_isWord rfl zm_X9_235 zi_X9_isWord zs_X9_isWord (zac_ok g15) (by decide) rfl rfl (zst_ok rfl (Nat.le_of_ble_eq_true rfl)) rfl ?_
  refine x_if_ne (pc := 5) dX9_price_5 (t := 11) rfl (fun c3 => ?_) (fun c3 => ?_)
  · rw [if_neg c3] at h
    refine x_aload_n (pc := 11) dX9_price_11 rfl rfl hl0 ?_
    obtain ⟨v4, e5, h⟩ := ob h
    refine y_getR (pc := 12) dX9_price_12 zf_X9_7 e5 ?_
    refine x_bipush (pc := 15) dX9_price_15 (v := 13) (by decide) ?_
    refine x_iload_n (pc := 17) dX9_price_17 rfl rfl ?_
    refine x_iadd (pc := 18) dX9_price_18 ?_
    obtain ⟨v6, e7, h⟩ := ob h
    refine y_iald (pc := 19) dX9_price_19 e7 ?_
    refine x_aload_n (pc := 20) dX9_price_20 rfl rfl hl0 ?_
    refine x_aload_n (pc := 21) dX9_price_21 rfl rfl hl0 ?_
    obtain ⟨v8, e9, h⟩ := ob h
    refine y_getR (pc := 22) dX9_price_22 zf_X9_7 e9 ?_
    refine x_iload_n (pc := 25) dX9_price_25 rfl rfl ?_
    obtain ⟨g14, h⟩ := bt h
    obtain ⟨r10, e11, h⟩ := ob h
    refine x_callV (av := [.ref v8, .int l1]) (st := [.int v6]) (pc := 26) dX9_price_26 (E_X9_hoardedOf (d := d + 2) e11) rfl (Nat.le_of_ble_eq_true rfl) zc_X9_hoardedOf rfl zm_X9_239 zi_X9_hoardedOf zs_X9_hoardedOf (zac_ok g14) (by decide) rfl rfl (zst_ok rfl (Nat.le_of_ble_eq_true rfl)) rfl ?_
    refine x_iadd (pc := 29) dX9_price_29 ?_
    refine x_istore_n (pc := 30) dX9_price_30 rfl (by decide) rfl ?_
    refine x_bipush (pc := 31) dX9_price_31 (v := 99) (by decide) ?_
    refine x_istore_n (pc := 33) dX9_price_33 rfl (by decide) rfl ?_
    refine ex_weak (Ls2 := [.ref l0, .int l1, .int (v6 + r10), .int 99, .null, .null]) ⟨Or.inr rfl, Or.inr rfl, Or.inr rfl, Or.inr rfl, Or.inl rfl, Or.inl rfl, trivial⟩ ?_
    rcases obs h with ⟨r13, e12, h⟩ | ⟨_, e12, h⟩
    · cases h
      exact LX_X9_price_34 zN _ _ _ _ _ hl0 _ e12 (fun r q => by cases q; rfl) (by intros; contradiction)
    · refine LX_X9_price_34 zN _ _ _ _ _ hl0 _ e12 (fun r q => by cases q) ?_
      intro q
      cases q
      refine x_iconst (pc := 103) dX9_price_103 (v := 0) rfl ?_
      obtain rfl := s1 h
      exact y_retI (pc := 104) dX9_price_104 rfl
  · rw [if_pos c3] at h
    refine x_ldc (pc := 8) dX9_price_8 zk_X9_238 ?_
    obtain rfl := s1 h
    exact y_retI (pc := 10) dX9_price_10 rfl
def f_X9_doSell (l0 : Nat) (l1 : Int32) (l2 : Int32) (l3 : Int32) (M : zM) : Option (Int32) := bif Nat.ble 1 l0 then (if l1 = l2 then (some 0) else ((oR M l0 9 58 0).bind fun v2 => (aI M v2 (13 + l3)).bind fun v4 => if v4 = 0 then ((oR M l0 9 58 0).bind fun v7 => (aI M v7 ((29 + (8 * l1)) + l3)).bind fun v9 => if v9 ≤ 0 then (some 0) else (bif zac M l0 9 58 then ((f_X9_needsOf l0 l1 l3 M).bind fun r12 => if r12 = 0 then (bif zac M l0 9 58 then ((f_X9_needsOf l0 l2 l3 M).bind fun r15 => if r15 ≤ 0 then (some 0) else ((oR M l0 9 58 0).bind fun v18 => (aI M v18 ((29 + (8 * l2)) + l3)).bind fun v20 => if v20 = 0 then (some 1) else (some 0))) else none) else (some 0)) else none)) else (some 0))) else none
theorem E_X9_doSell {G : zG} {d : Nat} {l0 : Nat} {l1 : Int32} {l2 : Int32} {l3 : Int32} {M : zM} {r : Int32} (h : f_X9_doSell l0 l1 l2 l3 M = some r) : Ex G (d + 4) yX9_doSell cX9_doSell 4 (some .boolean) 0 (zent0 [.ref l0, .int l1, .int l2, .int l3] 4) [] M (some (.int r), M) := by
  unfold f_X9_doSell at h
  obtain ⟨zz0, h⟩ := bt h
  have hl0 := bz zz0
  show Ex _ _ _ _ _ _ 0 [.ref l0, .int l1, .int l2, .int l3] [] _ _
  refine x_iload_n (pc := 0) dX9_doSell_0 rfl rfl ?_
  refine x_iload_n (pc := 1) dX9_doSell_1 rfl rfl ?_
  refine x_icmp_eq (pc := 2) dX9_doSell_2 (t := 73) rfl (fun c1 => ?_) (fun c1 => ?_)
  · rw [if_pos c1] at h
    refine x_iconst (pc := 73) dX9_doSell_73 (v := 0) rfl ?_
    obtain rfl := s1 h
    exact x_ret (pc := 74) dX9_doSell_74 (ty := .boolean) rfl rfl
  · rw [if_neg c1] at h
    refine x_aload_n (pc := 5) dX9_doSell_5 rfl rfl hl0 ?_
    obtain ⟨v2, e3, h⟩ := ob h
    refine y_getR (pc := 6) dX9_doSell_6 zf_X9_7 e3 ?_
    refine x_bipush (pc := 9) dX9_doSell_9 (v := 13) (by decide) ?_
    refine x_iload_n (pc := 11) dX9_doSell_11 rfl rfl ?_
    refine x_iadd (pc := 12) dX9_doSell_12 ?_
    obtain ⟨v4, e5, h⟩ := ob h
    refine y_iald (pc := 13) dX9_doSell_13 e5 ?_
    refine x_if_ne (pc := 14) dX9_doSell_14 (t := 73) rfl (fun c6 => ?_) (fun c6 => ?_)
    · rw [if_neg c6] at h
      refine x_iconst (pc := 73) dX9_doSell_73 (v := 0) rfl ?_
      obtain rfl := s1 h
      exact x_ret (pc := 74) dX9_doSell_74 (ty := .boolean) rfl rfl
    · rw [if_pos c6] at h
      refine x_aload_n (pc := 17) dX9_doSell_17 rfl rfl hl0 ?_
      obtain ⟨v7, e8, h⟩ := ob h
      refine y_getR (pc := 18) dX9_doSell_18 zf_X9_7 e8 ?_
      refine x_bipush (pc := 21) dX9_doSell_21 (v := 29) (by decide) ?_
      refine x_bipush (pc := 23) dX9_doSell_23 (v := 8) (by decide) ?_
      refine x_iload_n (pc := 25) dX9_doSell_25 rfl rfl ?_
      refine x_imul (pc := 26) dX9_doSell_26 ?_
      refine x_iadd (pc := 27) dX9_doSell_27 ?_
      refine x_iload_n (pc := 28) dX9_doSell_28 rfl rfl ?_
      refine x_iadd (pc := 29) dX9_doSell_29 ?_
      obtain ⟨v9, e10, h⟩ := ob h
      refine y_iald (pc := 30) dX9_doSell_30 e10 ?_
      refine x_if_le (pc := 31) dX9_doSell_31 (t := 73) rfl (fun c11 => ?_) (fun c11 => ?_)
      · rw [if_pos c11] at h
        refine x_iconst (pc := 73) dX9_doSell_73 (v := 0) rfl ?_
        obtain rfl := s1 h
        exact x_ret (pc := 74) dX9_doSell_74 (ty := .boolean) rfl rfl
      · rw [if_neg c11] at h
        refine x_aload_n (pc := 34) dX9_doSell_34 rfl rfl hl0 ?_
        refine x_iload_n (pc := 35) dX9_doSell_35 rfl rfl ?_
        refine x_iload_n (pc := 36) dX9_doSell_36 rfl rfl ?_
        obtain ⟨g24, h⟩ := bt h
        obtain ⟨r12, e13, h⟩ := ob h
        refine x_callV (av := [.int l1, .int l3]) (st := []) (pc := 37) dX9_doSell_37 (E_X9_needsOf (d := d) e13) rfl (Nat.le_of_ble_eq_true rfl) zc_X9_needsOf rfl zm_X9_362 zi_X9_needsOf zs_X9_needsOf (zac_ok g24) (by decide) rfl rfl (zst_ok rfl (Nat.le_of_ble_eq_true rfl)) rfl ?_
        refine x_if_ne (pc := 40) dX9_doSell_40 (t := 73) rfl (fun c14 => ?_) (fun c14 => ?_)
        · rw [if_neg c14] at h
          refine x_iconst (pc := 73) dX9_doSell_73 (v := 0) rfl ?_
          obtain rfl := s1 h
          exact x_ret (pc := 74) dX9_doSell_74 (ty := .boolean) rfl rfl
        · rw [if_pos c14] at h
          refine x_aload_n (pc := 43) dX9_doSell_43 rfl rfl hl0 ?_
          refine x_iload_n (pc := 44) dX9_doSell_44 rfl rfl ?_
          refine x_iload_n (pc := 45) dX9_doSell_45 rfl rfl ?_
          obtain ⟨g23, h⟩ := bt h
          obtain ⟨r15, e16, h⟩ := ob h
          refine x_callV (av := [.int l2, .int l3]) (st := []) (pc := 46) dX9_doSell_46 (E_X9_needsOf (d := d) e16) rfl (Nat.le_of_ble_eq_true rfl) zc_X9_needsOf rfl zm_X9_362 zi_X9_needsOf zs_X9_needsOf (zac_ok g23) (by decide) rfl rfl (zst_ok rfl (Nat.le_of_ble_eq_true rfl)) rfl ?_
          refine x_if_le (pc := 49) dX9_doSell_49 (t := 73) rfl (fun c17 => ?_) (fun c17 => ?_)
          · rw [if_pos c17] at h
            refine x_iconst (pc := 73) dX9_doSell_73 (v := 0) rfl ?_
            obtain rfl := s1 h
            exact x_ret (pc := 74) dX9_doSell_74 (ty := .boolean) rfl rfl
          · rw [if_neg c17] at h
            refine x_aload_n (pc := 52) dX9_doSell_52 rfl rfl hl0 ?_
            obtain ⟨v18, e19, h⟩ := ob h
            refine y_getR (pc := 53) dX9_doSell_53 zf_X9_7 e19 ?_
            refine x_bipush (pc := 56) dX9_doSell_56 (v := 29) (by decide) ?_
            refine x_bipush (pc := 58) dX9_doSell_58 (v := 8) (by decide) ?_
            refine x_iload_n (pc := 60) dX9_doSell_60 rfl rfl ?_
            refine x_imul (pc := 61) dX9_doSell_61 ?_
            refine x_iadd (pc := 62) dX9_doSell_62 ?_
            refine x_iload_n (pc := 63) dX9_doSell_63 rfl rfl ?_
            refine x_iadd (pc := 64) dX9_doSell_64 ?_
            obtain ⟨v20, e21, h⟩ := ob h
            refine y_iald (pc := 65) dX9_doSell_65 e21 ?_
            refine x_if_ne (pc := 66) dX9_doSell_66 (t := 73) rfl (fun c22 => ?_) (fun c22 => ?_)
            · rw [if_neg c22] at h
              refine x_iconst (pc := 73) dX9_doSell_73 (v := 0) rfl ?_
              obtain rfl := s1 h
              exact x_ret (pc := 74) dX9_doSell_74 (ty := .boolean) rfl rfl
            · rw [if_pos c22] at h
              refine x_iconst (pc := 69) dX9_doSell_69 (v := 1) rfl ?_
              refine x_goto (pc := 70) dX9_doSell_70 (t := 74) rfl ?_
              obtain rfl := s1 h
              exact x_ret (pc := 74) dX9_doSell_74 (ty := .boolean) rfl rfl
def L_X9_sells_28 : Nat → Nat → Int32 → Int32 → Int32 → Int32 → Int32 → zM → Option ((Int32) ⊕ (Int32))
  | 0, _, _, _, _, _, _, _ => none
  | n + 1, l0, l1, l2, l3, l4, l5, M => (oI M l0 9 58 7).bind fun v7 => if v7 ≤ l5 then (some (.inr l3)) else (bif zac M l0 9 58 then ((f_X9_doSell l0 l4 l5 l1 M).bind fun r10 => if r10 = 0 then (L_X9_sells_28 n l0 l1 l2 l3 l4 (l5 + 1) M) else (if l3 = l2 then (some (.inl ((10 * l4) + l5))) else (L_X9_sells_28 n l0 l1 l2 (l3 + 1) l4 (l5 + 1) M))) else none)
def L_X9_sells_16 : Nat → Nat → Int32 → Int32 → Int32 → Int32 → zM → Option ((Int32) ⊕ (Int32))
  | 0, _, _, _, _, _, _ => none
  | n + 1, l0, l1, l2, l3, l4, M => (oI M l0 9 58 7).bind fun v4 => if v4 ≤ l4 then (some (.inr l3)) else (bs (L_X9_sells_28 zN l0 l1 l2 l3 l4 0 M) (fun r => some (.inl r)) (fun v8 => L_X9_sells_16 n l0 l1 l2 v8 (l4 + 1) M))
def f_X9_sells (l0 : Nat) (l1 : Int32) (l2 : Int32) (M : zM) : Option (Int32) := bif Nat.ble 1 l0 then (bif zac M l0 9 58 then ((f_X9_isWord l0 l1 M).bind fun r1 => if r1 = 0 then (some (-1000000001)) else (bs (L_X9_sells_16 zN l0 l1 l2 0 0 M) some (fun v5 => if l2 = (-1) then (some v5) else (some (-1))))) else none) else none
theorem LX_X9_sells_28 {G : zG} {d : Nat} : ∀ (n : Nat) (l0 : Nat) (l1 : Int32) (l2 : Int32) (l3 : Int32) (l4 : Int32) (l5 : Int32) (M : zM) (hl0 : l0 ≠ 0) (e : (Int32) ⊕ (Int32)) {res : Option Value × zM}, L_X9_sells_28 n l0 l1 l2 l3 l4 l5 M = some e → (∀ r, e = .inl r → res = (some (.int r), M)) → (∀ (o3 : Int32), e = .inr o3 → Ex G (d + 5) yX9_sells cX9_sells 6 (some .int) 72 [.ref l0, .int l1, .int l2, .int o3, .int l4, .null] [] M res) → Ex G (d + 5) yX9_sells cX9_sells 6 (some .int) 28 [.ref l0, .int l1, .int l2, .int l3, .int l4, .int l5] [] M res := by
  intro n
  induction n with
  | zero =>
    intro l0 l1 l2 l3 l4 l5 M hl0 e res h K1 K2
    simp [L_X9_sells_28] at h
  | succ n ih =>
    intro l0 l1 l2 l3 l4 l5 M hl0 e res h K1 K2
    simp only [L_X9_sells_28] at h
    refine x_iload (pc := 28) dX9_sells_28 rfl ?_
    refine x_aload_n (pc := 30) dX9_sells_30 rfl rfl hl0 ?_
    obtain ⟨v7, e8, h⟩ := ob h
    refine y_getI (pc := 31) dX9_sells_31 zf_X9_124 e8 (by decide) ?_
    refine x_icmp_ge (pc := 34) dX9_sells_34 (t := 72) rfl (fun c9 => ?_) (fun c9 => ?_)
    · rw [if_pos c9] at h
      obtain rfl := s1 h
      refine ex_weak (Ls2 := [.ref l0, .int l1, .int l2, .int l3, .int l4, .null]) ⟨Or.inr rfl, Or.inr rfl, Or.inr rfl, Or.inr rfl, Or.inr rfl, Or.inl rfl, trivial⟩ ?_
      exact K2 _ rfl
    · rw [if_neg c9] at h
      refine x_aload_n (pc := 37) dX9_sells_37 rfl rfl hl0 ?_
      refine x_iload (pc := 38) dX9_sells_38 rfl ?_
      refine x_iload (pc := 40) dX9_sells_40 rfl ?_
      refine x_iload_n (pc := 42) dX9_sells_42 rfl rfl ?_
      obtain ⟨g14, h⟩ := bt h
      obtain ⟨r10, e11, h⟩ := ob h
      refine x_callV (av := [.int l4, .int l5, .int l1]) (st := []) (pc := 43) dX9_sells_43 (E_X9_doSell (d := d) e11) rfl (Nat.le_of_ble_eq_true rfl) zc_X9_doSell rfl zm_X9_365 zi_X9_doSell zs_X9_doSell (zac_ok g14) (by decide) rfl rfl (zst_ok rfl (Nat.le_of_ble_eq_true rfl)) rfl ?_
      refine x_if_eq (pc := 46) dX9_sells_46 (t := 66) rfl (fun c12 => ?_) (fun c12 => ?_)
      · rw [if_pos c12] at h
        refine x_iinc (pc := 66) dX9_sells_66 rfl rfl (by decide) rfl ?_
        refine x_goto (pc := 69) dX9_sells_69 (t := 28) rfl ?_
        refine ex_weak (Ls2 := [.ref l0, .int l1, .int l2, .int l3, .int l4, .int (l5 + 1)]) ⟨Or.inr rfl, Or.inr rfl, Or.inr rfl, Or.inr rfl, Or.inr rfl, Or.inr rfl, trivial⟩ ?_
        exact ih _ _ _ _ _ _ _ hl0 _ h K1 K2
      · rw [if_neg c12] at h
        refine x_iload_n (pc := 49) dX9_sells_49 rfl rfl ?_
        refine x_iload_n (pc := 50) dX9_sells_50 rfl rfl ?_
        refine x_icmp_ne (pc := 51) dX9_sells_51 (t := 63) rfl (fun c13 => ?_) (fun c13 => ?_)
        · rw [if_neg c13] at h
          refine x_iinc (pc := 63) dX9_sells_63 rfl rfl (by decide) rfl ?_
          refine x_iinc (pc := 66) dX9_sells_66 rfl rfl (by decide) rfl ?_
          refine x_goto (pc := 69) dX9_sells_69 (t := 28) rfl ?_
          refine ex_weak (Ls2 := [.ref l0, .int l1, .int l2, .int (l3 + 1), .int l4, .int (l5 + 1)]) ⟨Or.inr rfl, Or.inr rfl, Or.inr rfl, Or.inr rfl, Or.inr rfl, Or.inr rfl, trivial⟩ ?_
          exact ih _ _ _ _ _ _ _ hl0 _ h K1 K2
        · rw [if_pos c13] at h
          refine x_bipush (pc := 54) dX9_sells_54 (v := 10) (by decide) ?_
          refine x_iload (pc := 56) dX9_sells_56 rfl ?_
          refine x_imul (pc := 58) dX9_sells_58 ?_
          refine x_iload (pc := 59) dX9_sells_59 rfl ?_
          refine x_iadd (pc := 61) dX9_sells_61 ?_
          obtain rfl := s1 h
          rw [K1 _ rfl]
          exact y_retI (pc := 62) dX9_sells_62 rfl
theorem LX_X9_sells_16 {G : zG} {d : Nat} : ∀ (n : Nat) (l0 : Nat) (l1 : Int32) (l2 : Int32) (l3 : Int32) (l4 : Int32) (M : zM) (hl0 : l0 ≠ 0) (e : (Int32) ⊕ (Int32)) {res : Option Value × zM}, L_X9_sells_16 n l0 l1 l2 l3 l4 M = some e → (∀ r, e = .inl r → res = (some (.int r), M)) → (∀ (o3 : Int32), e = .inr o3 → Ex G (d + 5) yX9_sells cX9_sells 6 (some .int) 78 [.null, .null, .int l2, .int o3, .null, .null] [] M res) → Ex G (d + 5) yX9_sells cX9_sells 6 (some .int) 16 [.ref l0, .int l1, .int l2, .int l3, .int l4, .null] [] M res := by
  intro n
  induction n with
  | zero =>
    intro l0 l1 l2 l3 l4 M hl0 e res h K1 K2
    simp [L_X9_sells_16] at h
  | succ n ih =>
    intro l0 l1 l2 l3 l4 M hl0 e res h K1 K2
    simp only [L_X9_sells_16] at h
    refine x_iload (pc := 16) dX9_sells_16 rfl ?_
    refine x_aload_n (pc := 18) dX9_sells_18 rfl rfl hl0 ?_
    obtain ⟨v4, e5, h⟩ := ob h
    refine y_getI (pc := 19) dX9_sells_19 zf_X9_124 e5 (by decide) ?_
    refine x_icmp_ge (pc := 22) dX9_sells_22 (t := 78) rfl (fun c6 => ?_) (fun c6 => ?_)
    · rw [if_pos c6] at h
      obtain rfl := s1 h
      refine ex_weak (Ls2 := [.null, .null, .int l2, .int l3, .null, .null]) ⟨Or.inl rfl, Or.inl rfl, Or.inr rfl, Or.inr rfl, Or.inl rfl, Or.inl rfl, trivial⟩ ?_
      exact K2 _ rfl
    · rw [if_neg c6] at h
      refine x_iconst (pc := 25) dX9_sells_25 (v := 0) rfl ?_
      refine x_istore (pc := 26) dX9_sells_26 (by decide) rfl ?_
      refine ex_weak (Ls2 := [.ref l0, .int l1, .int l2, .int l3, .int l4, .int 0]) ⟨Or.inr rfl, Or.inr rfl, Or.inr rfl, Or.inr rfl, Or.inr rfl, Or.inr rfl, trivial⟩ ?_
      rcases obs h with ⟨r9, e7, h⟩ | ⟨v8, e7, h⟩
      · cases h
        exact LX_X9_sells_28 zN _ _ _ _ _ _ _ hl0 _ e7 (fun r q => by cases q; exact K1 _ rfl) (by intros; contradiction)
      · refine LX_X9_sells_28 zN _ _ _ _ _ _ _ hl0 _ e7 (fun r q => by cases q) ?_
        intro u10 q
        cases q
        refine x_iinc (pc := 72) dX9_sells_72 rfl rfl (by decide) rfl ?_
        refine x_goto (pc := 75) dX9_sells_75 (t := 16) rfl ?_
        refine ex_weak (Ls2 := [.ref l0, .int l1, .int l2, .int v8, .int (l4 + 1), .null]) ⟨Or.inr rfl, Or.inr rfl, Or.inr rfl, Or.inr rfl, Or.inr rfl, Or.inl rfl, trivial⟩ ?_
        exact ih _ _ _ _ _ _ hl0 _ h K1 K2
theorem E_X9_sells {G : zG} {d : Nat} {l0 : Nat} {l1 : Int32} {l2 : Int32} {M : zM} {r : Int32} (h : f_X9_sells l0 l1 l2 M = some r) : Ex G (d + 5) yX9_sells cX9_sells 6 (some .int) 0 (zent0 [.ref l0, .int l1, .int l2] 6) [] M (some (.int r), M) := by
  unfold f_X9_sells at h
  obtain ⟨zz0, h⟩ := bt h
  have hl0 := bz zz0
  show Ex _ _ _ _ _ _ 0 [.ref l0, .int l1, .int l2, .null, .null, .null] [] _ _
  refine x_aload_n (pc := 0) dX9_sells_0 rfl rfl hl0 ?_
  refine x_iload_n (pc := 1) dX9_sells_1 rfl rfl ?_
  obtain ⟨g9, h⟩ := bt h
  obtain ⟨r1, e2, h⟩ := ob h
  refine x_callV (av := [.int l1]) (st := []) (pc := 2) dX9_sells_2 (E_X9_isWord (d := d + 3) e2) rfl (Nat.le_of_ble_eq_true rfl) zc_X9_isWord rfl zm_X9_235 zi_X9_isWord zs_X9_isWord (zac_ok g9) (by decide) rfl rfl (zst_ok rfl (Nat.le_of_ble_eq_true rfl)) rfl ?_
  refine x_if_ne (pc := 5) dX9_sells_5 (t := 11) rfl (fun c3 => ?_) (fun c3 => ?_)
  · rw [if_neg c3] at h
    refine x_iconst (pc := 11) dX9_sells_11 (v := 0) rfl ?_
    refine x_istore_n (pc := 12) dX9_sells_12 rfl (by decide) rfl ?_
    refine x_iconst (pc := 13) dX9_sells_13 (v := 0) rfl ?_
    refine x_istore (pc := 14) dX9_sells_14 (by decide) rfl ?_
    refine ex_weak (Ls2 := [.ref l0, .int l1, .int l2, .int 0, .int 0, .null]) ⟨Or.inr rfl, Or.inr rfl, Or.inr rfl, Or.inr rfl, Or.inr rfl, Or.inl rfl, trivial⟩ ?_
    rcases obs h with ⟨r7, e4, h⟩ | ⟨v5, e4, h⟩
    · cases h
      exact LX_X9_sells_16 zN _ _ _ _ _ _ hl0 _ e4 (fun r q => by cases q; rfl) (by intros; contradiction)
    · refine LX_X9_sells_16 zN _ _ _ _ _ _ hl0 _ e4 (fun r q => by cases q) ?_
      intro u8 q
      cases q
      refine x_iload_n (pc := 78) dX9_sells_78 rfl rfl ?_
      refine x_iconst (pc := 79) dX9_sells_79 (v := (-1)) rfl ?_
      refine x_icmp_ne (pc := 80) dX9_sells_80 (t := 87) rfl (fun c6 => ?_) (fun c6 => ?_)
      · rw [if_neg c6] at h
        refine x_iconst (pc := 87) dX9_sells_87 (v := (-1)) rfl ?_
        obtain rfl := s1 h
        exact y_retI (pc := 88) dX9_sells_88 rfl
      · rw [if_pos c6] at h
        refine x_iload_n (pc := 83) dX9_sells_83 rfl rfl ?_
        refine x_goto (pc := 84) dX9_sells_84 (t := 88) rfl ?_
        obtain rfl := s1 h
        exact y_retI (pc := 88) dX9_sells_88 rfl
  · rw [if_pos c3] at h
    refine x_ldc (pc := 8) dX9_sells_8 zk_X9_238 ?_
    obtain rfl := s1 h
    exact y_retI (pc := 10) dX9_sells_10 rfl
def L_X9_share_24 : Nat → Nat → Int32 → Int32 → Int32 → Int32 → zM → Option (Int32)
  | 0, _, _, _, _, _, _ => none
  | n + 1, l0, l1, l2, l3, l4, M => (oI M l0 9 58 7).bind fun v7 => if v7 ≤ l4 then (some l3) else (bif zac M l0 9 58 then ((f_X9_needsOf l0 l4 l2 M).bind fun r10 => bif zac M l0 9 58 then ((f_X9_needsOf l0 l1 l2 M).bind fun r12 => if r12 < r10 then (L_X9_share_24 n l0 l1 l2 (l3 + 1) (l4 + 1) M) else (bif zac M l0 9 58 then ((f_X9_needsOf l0 l4 l2 M).bind fun r16 => bif zac M l0 9 58 then ((f_X9_needsOf l0 l1 l2 M).bind fun r18 => if r16 = r18 then (if l1 ≤ l4 then (L_X9_share_24 n l0 l1 l2 (l3 + 0) (l4 + 1) M) else (L_X9_share_24 n l0 l1 l2 (l3 + 1) (l4 + 1) M)) else (L_X9_share_24 n l0 l1 l2 (l3 + 0) (l4 + 1) M)) else none) else none)) else none) else none)
def f_X9_share (l0 : Nat) (l1 : Int32) (l2 : Int32) (M : zM) : Option (Int32) := bif Nat.ble 1 l0 then (bif zac M l0 9 58 then ((f_X9_isPerson l0 l1 M).bind fun r1 => if r1 = 0 then (some (-1000000001)) else (bif zac M l0 9 58 then ((f_X9_isWord l0 l2 M).bind fun r4 => if r4 = 0 then (some (-1000000001)) else ((L_X9_share_24 zN l0 l1 l2 0 0 M).bind fun v8 => (oR M l0 9 58 0).bind fun v9 => (aI M v9 (13 + l2)).bind fun v11 => (oI M l0 9 58 7).bind fun v13 => (dv v11 v13).bind fun v15 => (oR M l0 9 58 0).bind fun v17 => (aI M v17 (13 + l2)).bind fun v19 => (oI M l0 9 58 7).bind fun v21 => (rm v19 v21).bind fun v23 => if v23 ≤ v8 then (some (v15 + 0)) else (some (v15 + 1)))) else none)) else none) else none
set_option maxRecDepth 100000 in
set_option maxHeartbeats 2000000 in
theorem LX_X9_share_24 {G : zG} {d : Nat} : ∀ (n : Nat) (l0 : Nat) (l1 : Int32) (l2 : Int32) (l3 : Int32) (l4 : Int32) (M : zM) (hl0 : l0 ≠ 0) (o3 : Int32) {res : Option Value × zM}, L_X9_share_24 n l0 l1 l2 l3 l4 M = some o3 → Ex G (d + 4) yX9_share cX9_share 6 (some .int) 97 [.ref l0, .null, .int l2, .int o3, .null, .null] [] M res → Ex G (d + 4) yX9_share cX9_share 6 (some .int) 24 [.ref l0, .int l1, .int l2, .int l3, .int l4, .null] [] M res := by
  intro n
  induction n with
  | zero =>
    intro l0 l1 l2 l3 l4 M hl0 o3 res h K
    simp [L_X9_share_24] at h
  | succ n ih =>
    intro l0 l1 l2 l3 l4 M hl0 o3 res h K
    simp only [L_X9_share_24] at h
    refine x_iload (pc := 24) dX9_share_24 rfl ?_
    refine x_aload_n (pc := 26) dX9_share_26 rfl rfl hl0 ?_
    obtain ⟨v7, e8, h⟩ := ob h
    refine y_getI (pc := 27) dX9_share_27 zf_X9_124 e8 (by decide) ?_
    refine x_icmp_ge (pc := 30) dX9_share_30 (t := 97) rfl (fun c9 => ?_) (fun c9 => ?_)
    · rw [if_pos c9] at h
      obtain rfl := s1 h
      refine ex_weak (Ls2 := [.ref l0, .null, .int l2, .int l3, .null, .null]) ⟨Or.inr rfl, Or.inl rfl, Or.inr rfl, Or.inr rfl, Or.inl rfl, Or.inl rfl, trivial⟩ ?_
      exact K
    · rw [if_neg c9] at h
      refine x_aload_n (pc := 33) dX9_share_33 rfl rfl hl0 ?_
      refine x_iload (pc := 34) dX9_share_34 rfl ?_
      refine x_iload_n (pc := 36) dX9_share_36 rfl rfl ?_
      obtain ⟨g28, h⟩ := bt h
      obtain ⟨r10, e11, h⟩ := ob h
      refine x_callV (av := [.int l4, .int l2]) (st := []) (pc := 37) dX9_share_37 (E_X9_needsOf (d := d) e11) rfl (Nat.le_of_ble_eq_true rfl) zc_X9_needsOf rfl zm_X9_362 zi_X9_needsOf zs_X9_needsOf (zac_ok g28) (by decide) rfl rfl (zst_ok rfl (Nat.le_of_ble_eq_true rfl)) rfl ?_
      refine x_aload_n (pc := 40) dX9_share_40 rfl rfl hl0 ?_
      refine x_iload_n (pc := 41) dX9_share_41 rfl rfl ?_
      refine x_iload_n (pc := 42) dX9_share_42 rfl rfl ?_
      obtain ⟨g27, h⟩ := bt h
      obtain ⟨r12, e13, h⟩ := ob h
      refine x_callV (av := [.int l1, .int l2]) (st := [.int r10]) (pc := 43) dX9_share_43 (E_X9_needsOf (d := d) e13) rfl (Nat.le_of_ble_eq_true rfl) zc_X9_needsOf rfl zm_X9_362 zi_X9_needsOf zs_X9_needsOf (zac_ok g27) (by decide) rfl rfl (zst_ok rfl (Nat.le_of_ble_eq_true rfl)) rfl ?_
      refine x_icmp_gt (pc := 46) dX9_share_46 (t := 71) rfl (fun c14 => ?_) (fun c14 => ?_)
      · rw [if_pos c14] at h
        refine x_iconst (pc := 71) dX9_share_71 (v := 1) rfl ?_
        refine x_goto (pc := 72) dX9_share_72 (t := 76) rfl ?_
        refine x_istore (pc := 76) dX9_share_76 (by decide) rfl ?_
        refine x_iload_n (pc := 78) dX9_share_78 rfl rfl ?_
        refine x_iload (pc := 79) dX9_share_79 rfl ?_
        refine x_if_eq (pc := 81) dX9_share_81 (t := 88) rfl (fun c15 => ?_) (fun c15 => ?_)
        · exact absurd c15 (by decide)
        · refine x_iconst (pc := 84) dX9_share_84 (v := 1) rfl ?_
          refine x_goto (pc := 85) dX9_share_85 (t := 89) rfl ?_
          refine x_iadd (pc := 89) dX9_share_89 ?_
          refine x_istore_n (pc := 90) dX9_share_90 rfl (by decide) rfl ?_
          refine x_iinc (pc := 91) dX9_share_91 rfl rfl (by decide) rfl ?_
          refine x_goto (pc := 94) dX9_share_94 (t := 24) rfl ?_
          refine ex_weak (Ls2 := [.ref l0, .int l1, .int l2, .int (l3 + 1), .int (l4 + 1), .null]) ⟨Or.inr rfl, Or.inr rfl, Or.inr rfl, Or.inr rfl, Or.inr rfl, Or.inl rfl, trivial⟩ ?_
          exact ih _ _ _ _ _ _ hl0 _ h K
      · rw [if_neg c14] at h
        refine x_aload_n (pc := 49) dX9_share_49 rfl rfl hl0 ?_
        refine x_iload (pc := 50) dX9_share_50 rfl ?_
        refine x_iload_n (pc := 52) dX9_share_52 rfl rfl ?_
        obtain ⟨g26, h⟩ := bt h
        obtain ⟨r16, e17, h⟩ := ob h
        refine x_callV (av := [.int l4, .int l2]) (st := []) (pc := 53) dX9_share_53 (E_X9_needsOf (d := d) e17) rfl (Nat.le_of_ble_eq_true rfl) zc_X9_needsOf rfl zm_X9_362 zi_X9_needsOf zs_X9_needsOf (zac_ok g26) (by decide) rfl rfl (zst_ok rfl (Nat.le_of_ble_eq_true rfl)) rfl ?_
        refine x_aload_n (pc := 56) dX9_share_56 rfl rfl hl0 ?_
        refine x_iload_n (pc := 57) dX9_share_57 rfl rfl ?_
        refine x_iload_n (pc := 58) dX9_share_58 rfl rfl ?_
        obtain ⟨g25, h⟩ := bt h
        obtain ⟨r18, e19, h⟩ := ob h
        refine x_callV (av := [.int l1, .int l2]) (st := [.int r16]) (pc := 59) dX9_share_59 (E_X9_needsOf (d := d) e19) rfl (Nat.le_of_ble_eq_true rfl) zc_X9_needsOf rfl zm_X9_362 zi_X9_needsOf zs_X9_needsOf (zac_ok g25) (by decide) rfl rfl (zst_ok rfl (Nat.le_of_ble_eq_true rfl)) rfl ?_
        refine x_icmp_ne (pc := 62) dX9_share_62 (t := 75) rfl (fun c20 => ?_) (fun c20 => ?_)
        · rw [if_neg c20] at h
          refine x_iconst (pc := 75) dX9_share_75 (v := 0) rfl ?_
          refine x_istore (pc := 76) dX9_share_76 (by decide) rfl ?_
          refine x_iload_n (pc := 78) dX9_share_78 rfl rfl ?_
          refine x_iload (pc := 79) dX9_share_79 rfl ?_
          refine x_if_eq (pc := 81) dX9_share_81 (t := 88) rfl (fun c24 => ?_) (fun c24 => ?_)
          · refine x_iconst (pc := 88) dX9_share_88 (v := 0) rfl ?_
            refine x_iadd (pc := 89) dX9_share_89 ?_
            refine x_istore_n (pc := 90) dX9_share_90 rfl (by decide) rfl ?_
            refine x_iinc (pc := 91) dX9_share_91 rfl rfl (by decide) rfl ?_
            refine x_goto (pc := 94) dX9_share_94 (t := 24) rfl ?_
            refine ex_weak (Ls2 := [.ref l0, .int l1, .int l2, .int (l3 + 0), .int (l4 + 1), .null]) ⟨Or.inr rfl, Or.inr rfl, Or.inr rfl, Or.inr rfl, Or.inr rfl, Or.inl rfl, trivial⟩ ?_
            exact ih _ _ _ _ _ _ hl0 _ h K
          · exact absurd c24 (by decide)
        · rw [if_pos c20] at h
          refine x_iload (pc := 65) dX9_share_65 rfl ?_
          refine x_iload_n (pc := 67) dX9_share_67 rfl rfl ?_
          refine x_icmp_ge (pc := 68) dX9_share_68 (t := 75) rfl (fun c21 => ?_) (fun c21 => ?_)
          · rw [if_pos c21] at h
            refine x_iconst (pc := 75) dX9_share_75 (v := 0) rfl ?_
            refine x_istore (pc := 76) dX9_share_76 (by decide) rfl ?_
            refine x_iload_n (pc := 78) dX9_share_78 rfl rfl ?_
            refine x_iload (pc := 79) dX9_share_79 rfl ?_
            refine x_if_eq (pc := 81) dX9_share_81 (t := 88) rfl (fun c22 => ?_) (fun c22 => ?_)
            · refine x_iconst (pc := 88) dX9_share_88 (v := 0) rfl ?_
              refine x_iadd (pc := 89) dX9_share_89 ?_
              refine x_istore_n (pc := 90) dX9_share_90 rfl (by decide) rfl ?_
              refine x_iinc (pc := 91) dX9_share_91 rfl rfl (by decide) rfl ?_
              refine x_goto (pc := 94) dX9_share_94 (t := 24) rfl ?_
              refine ex_weak (Ls2 := [.ref l0, .int l1, .int l2, .int (l3 + 0), .int (l4 + 1), .null]) ⟨Or.inr rfl, Or.inr rfl, Or.inr rfl, Or.inr rfl, Or.inr rfl, Or.inl rfl, trivial⟩ ?_
              exact ih _ _ _ _ _ _ hl0 _ h K
            · exact absurd c22 (by decide)
          · rw [if_neg c21] at h
            refine x_iconst (pc := 71) dX9_share_71 (v := 1) rfl ?_
            refine x_goto (pc := 72) dX9_share_72 (t := 76) rfl ?_
            refine x_istore (pc := 76) dX9_share_76 (by decide) rfl ?_
            refine x_iload_n (pc := 78) dX9_share_78 rfl rfl ?_
            refine x_iload (pc := 79) dX9_share_79 rfl ?_
            refine x_if_eq (pc := 81) dX9_share_81 (t := 88) rfl (fun c23 => ?_) (fun c23 => ?_)
            · exact absurd c23 (by decide)
            · refine x_iconst (pc := 84) dX9_share_84 (v := 1) rfl ?_
              refine x_goto (pc := 85) dX9_share_85 (t := 89) rfl ?_
              refine x_iadd (pc := 89) dX9_share_89 ?_
              refine x_istore_n (pc := 90) dX9_share_90 rfl (by decide) rfl ?_
              refine x_iinc (pc := 91) dX9_share_91 rfl rfl (by decide) rfl ?_
              refine x_goto (pc := 94) dX9_share_94 (t := 24) rfl ?_
              refine ex_weak (Ls2 := [.ref l0, .int l1, .int l2, .int (l3 + 1), .int (l4 + 1), .null]) ⟨Or.inr rfl, Or.inr rfl, Or.inr rfl, Or.inr rfl, Or.inr rfl, Or.inl rfl, trivial⟩ ?_
              exact ih _ _ _ _ _ _ hl0 _ h K
set_option maxRecDepth 100000 in
set_option maxHeartbeats 2000000 in
theorem E_X9_share {G : zG} {d : Nat} {l0 : Nat} {l1 : Int32} {l2 : Int32} {M : zM} {r : Int32} (h : f_X9_share l0 l1 l2 M = some r) : Ex G (d + 4) yX9_share cX9_share 6 (some .int) 0 (zent0 [.ref l0, .int l1, .int l2] 6) [] M (some (.int r), M) := by
  unfold f_X9_share at h
  obtain ⟨zz0, h⟩ := bt h
  have hl0 := bz zz0
  show Ex _ _ _ _ _ _ 0 [.ref l0, .int l1, .int l2, .null, .null, .null] [] _ _
  refine x_aload_n (pc := 0) dX9_share_0 rfl rfl hl0 ?_
  refine x_iload_n (pc := 1) dX9_share_1 rfl rfl ?_
  obtain ⟨g27, h⟩ := bt h
  obtain ⟨r1, e2, h⟩ := ob h
  refine x_callV (av := [.int l1]) (st := []) (pc := 2) dX9_share_2 (E_X9_isPerson (d := d + 2) e2) rfl (Nat.le_of_ble_eq_true rfl) zc_X9_isPerson rfl zm_X9_243 zi_X9_isPerson zs_X9_isPerson (zac_ok g27) (by decide) rfl rfl (zst_ok rfl (Nat.le_of_ble_eq_true rfl)) rfl ?_
  refine x_if_eq (pc := 5) dX9_share_5 (t := 16) rfl (fun c3 => ?_) (fun c3 => ?_)
  · rw [if_pos c3] at h
    refine x_ldc (pc := 16) dX9_share_16 zk_X9_238 ?_
    obtain rfl := s1 h
    exact y_retI (pc := 18) dX9_share_18 rfl
  · rw [if_neg c3] at h
    refine x_aload_n (pc := 8) dX9_share_8 rfl rfl hl0 ?_
    refine x_iload_n (pc := 9) dX9_share_9 rfl rfl ?_
    obtain ⟨g26, h⟩ := bt h
    obtain ⟨r4, e5, h⟩ := ob h
    refine x_callV (av := [.int l2]) (st := []) (pc := 10) dX9_share_10 (E_X9_isWord (d := d + 2) e5) rfl (Nat.le_of_ble_eq_true rfl) zc_X9_isWord rfl zm_X9_235 zi_X9_isWord zs_X9_isWord (zac_ok g26) (by decide) rfl rfl (zst_ok rfl (Nat.le_of_ble_eq_true rfl)) rfl ?_
    refine x_if_ne (pc := 13) dX9_share_13 (t := 19) rfl (fun c6 => ?_) (fun c6 => ?_)
    · rw [if_neg c6] at h
      refine x_iconst (pc := 19) dX9_share_19 (v := 0) rfl ?_
      refine x_istore_n (pc := 20) dX9_share_20 rfl (by decide) rfl ?_
      refine x_iconst (pc := 21) dX9_share_21 (v := 0) rfl ?_
      refine x_istore (pc := 22) dX9_share_22 (by decide) rfl ?_
      obtain ⟨v8, e7, h⟩ := ob h
      refine ex_weak (Ls2 := [.ref l0, .int l1, .int l2, .int 0, .int 0, .null]) ⟨Or.inr rfl, Or.inr rfl, Or.inr rfl, Or.inr rfl, Or.inr rfl, Or.inl rfl, trivial⟩ ?_
      refine LX_X9_share_24 zN _ _ _ _ _ _ hl0 _ e7 ?_
      refine x_aload_n (pc := 97) dX9_share_97 rfl rfl hl0 ?_
      obtain ⟨v9, e10, h⟩ := ob h
      refine y_getR (pc := 98) dX9_share_98 zf_X9_7 e10 ?_
      refine x_bipush (pc := 101) dX9_share_101 (v := 13) (by decide) ?_
      refine x_iload_n (pc := 103) dX9_share_103 rfl rfl ?_
      refine x_iadd (pc := 104) dX9_share_104 ?_
      obtain ⟨v11, e12, h⟩ := ob h
      refine y_iald (pc := 105) dX9_share_105 e12 ?_
      refine x_aload_n (pc := 106) dX9_share_106 rfl rfl hl0 ?_
      obtain ⟨v13, e14, h⟩ := ob h
      refine y_getI (pc := 107) dX9_share_107 zf_X9_124 e14 (by decide) ?_
      obtain ⟨v15, e16, h⟩ := ob h
      refine y_idiv (pc := 110) dX9_share_110 e16 ?_
      refine x_iload_n (pc := 111) dX9_share_111 rfl rfl ?_
      refine x_aload_n (pc := 112) dX9_share_112 rfl rfl hl0 ?_
      obtain ⟨v17, e18, h⟩ := ob h
      refine y_getR (pc := 113) dX9_share_113 zf_X9_7 e18 ?_
      refine x_bipush (pc := 116) dX9_share_116 (v := 13) (by decide) ?_
      refine x_iload_n (pc := 118) dX9_share_118 rfl rfl ?_
      refine x_iadd (pc := 119) dX9_share_119 ?_
      obtain ⟨v19, e20, h⟩ := ob h
      refine y_iald (pc := 120) dX9_share_120 e20 ?_
      refine x_aload_n (pc := 121) dX9_share_121 rfl rfl hl0 ?_
      obtain ⟨v21, e22, h⟩ := ob h
      refine y_getI (pc := 122) dX9_share_122 zf_X9_124 e22 (by decide) ?_
      obtain ⟨v23, e24, h⟩ := ob h
      refine y_irem (pc := 125) dX9_share_125 e24 ?_
      refine x_icmp_ge (pc := 126) dX9_share_126 (t := 133) rfl (fun c25 => ?_) (fun c25 => ?_)
      · rw [if_pos c25] at h
        refine x_iconst (pc := 133) dX9_share_133 (v := 0) rfl ?_
        refine x_iadd (pc := 134) dX9_share_134 ?_
        obtain rfl := s1 h
        exact y_retI (pc := 135) dX9_share_135 rfl
      · rw [if_neg c25] at h
        refine x_iconst (pc := 129) dX9_share_129 (v := 1) rfl ?_
        refine x_goto (pc := 130) dX9_share_130 (t := 134) rfl ?_
        refine x_iadd (pc := 134) dX9_share_134 ?_
        obtain rfl := s1 h
        exact y_retI (pc := 135) dX9_share_135 rfl
    · rw [if_pos c6] at h
      refine x_ldc (pc := 16) dX9_share_16 zk_X9_238 ?_
      obtain rfl := s1 h
      exact y_retI (pc := 18) dX9_share_18 rfl
def L_X9_more_24 : Nat → Nat → Int32 → Int32 → Int32 → zM → Option (Int32)
  | 0, _, _, _, _, _ => none
  | n + 1, l0, l1, l2, l3, M => (oI M l0 9 58 7).bind fun v8 => if v8 ≤ l3 then (some l2) else (bif zac M l0 9 58 then ((f_X9_needsOf l0 l3 l1 M).bind fun r11 => (oR M l0 9 58 0).bind fun v13 => (aI M v13 ((29 + (8 * l3)) + l1)).bind fun v15 => if r11 - v15 ≤ 0 then (L_X9_more_24 n l0 l1 (l2 + 0) (l3 + 1) M) else (L_X9_more_24 n l0 l1 (l2 + (r11 - v15)) (l3 + 1) M)) else none)
def f_X9_more (l0 : Nat) (l1 : Int32) (M : zM) : Option (Int32) := bif Nat.ble 1 l0 then (bif zac M l0 9 58 then ((f_X9_isWord l0 l1 M).bind fun r1 => if r1 = 0 then (some (-1000000001)) else ((oR M l0 9 58 0).bind fun v4 => (aI M v4 (13 + l1)).bind fun v6 => (L_X9_more_24 zN l0 l1 (-v6) 0 M).bind fun v9 => if v9 ≤ 0 then (some 0) else (some v9))) else none) else none
theorem LX_X9_more_24 {G : zG} {d : Nat} : ∀ (n : Nat) (l0 : Nat) (l1 : Int32) (l2 : Int32) (l3 : Int32) (M : zM) (hl0 : l0 ≠ 0) (o2 : Int32) {res : Option Value × zM}, L_X9_more_24 n l0 l1 l2 l3 M = some o2 → Ex G (d + 4) yX9_more cX9_more 5 (some .int) 75 [.null, .null, .int o2, .null, .null] [] M res → Ex G (d + 4) yX9_more cX9_more 5 (some .int) 24 [.ref l0, .int l1, .int l2, .int l3, .null] [] M res := by
  intro n
  induction n with
  | zero =>
    intro l0 l1 l2 l3 M hl0 o2 res h K
    simp [L_X9_more_24] at h
  | succ n ih =>
    intro l0 l1 l2 l3 M hl0 o2 res h K
    simp only [L_X9_more_24] at h
    refine x_iload_n (pc := 24) dX9_more_24 rfl rfl ?_
    refine x_aload_n (pc := 25) dX9_more_25 rfl rfl hl0 ?_
    obtain ⟨v8, e9, h⟩ := ob h
    refine y_getI (pc := 26) dX9_more_26 zf_X9_124 e9 (by decide) ?_
    refine x_icmp_ge (pc := 29) dX9_more_29 (t := 75) rfl (fun c10 => ?_) (fun c10 => ?_)
    · rw [if_pos c10] at h
      obtain rfl := s1 h
      refine ex_weak (Ls2 := [.null, .null, .int l2, .null, .null]) ⟨Or.inl rfl, Or.inl rfl, Or.inr rfl, Or.inl rfl, Or.inl rfl, trivial⟩ ?_
      exact K
    · rw [if_neg c10] at h
      refine x_aload_n (pc := 32) dX9_more_32 rfl rfl hl0 ?_
      refine x_iload_n (pc := 33) dX9_more_33 rfl rfl ?_
      refine x_iload_n (pc := 34) dX9_more_34 rfl rfl ?_
      obtain ⟨g18, h⟩ := bt h
      obtain ⟨r11, e12, h⟩ := ob h
      refine x_callV (av := [.int l3, .int l1]) (st := []) (pc := 35) dX9_more_35 (E_X9_needsOf (d := d) e12) rfl (Nat.le_of_ble_eq_true rfl) zc_X9_needsOf rfl zm_X9_362 zi_X9_needsOf zs_X9_needsOf (zac_ok g18) (by decide) rfl rfl (zst_ok rfl (Nat.le_of_ble_eq_true rfl)) rfl ?_
      refine x_aload_n (pc := 38) dX9_more_38 rfl rfl hl0 ?_
      obtain ⟨v13, e14, h⟩ := ob h
      refine y_getR (pc := 39) dX9_more_39 zf_X9_7 e14 ?_
      refine x_bipush (pc := 42) dX9_more_42 (v := 29) (by decide) ?_
      refine x_bipush (pc := 44) dX9_more_44 (v := 8) (by decide) ?_
      refine x_iload_n (pc := 46) dX9_more_46 rfl rfl ?_
      refine x_imul (pc := 47) dX9_more_47 ?_
      refine x_iadd (pc := 48) dX9_more_48 ?_
      refine x_iload_n (pc := 49) dX9_more_49 rfl rfl ?_
      refine x_iadd (pc := 50) dX9_more_50 ?_
      obtain ⟨v15, e16, h⟩ := ob h
      refine y_iald (pc := 51) dX9_more_51 e16 ?_
      refine x_isub (pc := 52) dX9_more_52 ?_
      refine x_istore (pc := 53) dX9_more_53 (by decide) rfl ?_
      refine x_iload_n (pc := 55) dX9_more_55 rfl rfl ?_
      refine x_iload (pc := 56) dX9_more_56 rfl ?_
      refine x_if_le (pc := 58) dX9_more_58 (t := 66) rfl (fun c17 => ?_) (fun c17 => ?_)
      · rw [if_pos c17] at h
        refine x_iconst (pc := 66) dX9_more_66 (v := 0) rfl ?_
        refine x_iadd (pc := 67) dX9_more_67 ?_
        refine x_istore_n (pc := 68) dX9_more_68 rfl (by decide) rfl ?_
        refine x_iinc (pc := 69) dX9_more_69 rfl rfl (by decide) rfl ?_
        refine x_goto (pc := 72) dX9_more_72 (t := 24) rfl ?_
        refine ex_weak (Ls2 := [.ref l0, .int l1, .int (l2 + 0), .int (l3 + 1), .null]) ⟨Or.inr rfl, Or.inr rfl, Or.inr rfl, Or.inr rfl, Or.inl rfl, trivial⟩ ?_
        exact ih _ _ _ _ _ hl0 _ h K
      · rw [if_neg c17] at h
        refine x_iload (pc := 61) dX9_more_61 rfl ?_
        refine x_goto (pc := 63) dX9_more_63 (t := 67) rfl ?_
        refine x_iadd (pc := 67) dX9_more_67 ?_
        refine x_istore_n (pc := 68) dX9_more_68 rfl (by decide) rfl ?_
        refine x_iinc (pc := 69) dX9_more_69 rfl rfl (by decide) rfl ?_
        refine x_goto (pc := 72) dX9_more_72 (t := 24) rfl ?_
        refine ex_weak (Ls2 := [.ref l0, .int l1, .int (l2 + (r11 - v15)), .int (l3 + 1), .null]) ⟨Or.inr rfl, Or.inr rfl, Or.inr rfl, Or.inr rfl, Or.inl rfl, trivial⟩ ?_
        exact ih _ _ _ _ _ hl0 _ h K
theorem E_X9_more {G : zG} {d : Nat} {l0 : Nat} {l1 : Int32} {M : zM} {r : Int32} (h : f_X9_more l0 l1 M = some r) : Ex G (d + 4) yX9_more cX9_more 5 (some .int) 0 (zent0 [.ref l0, .int l1] 5) [] M (some (.int r), M) := by
  unfold f_X9_more at h
  obtain ⟨zz0, h⟩ := bt h
  have hl0 := bz zz0
  show Ex _ _ _ _ _ _ 0 [.ref l0, .int l1, .null, .null, .null] [] _ _
  refine x_aload_n (pc := 0) dX9_more_0 rfl rfl hl0 ?_
  refine x_iload_n (pc := 1) dX9_more_1 rfl rfl ?_
  obtain ⟨g11, h⟩ := bt h
  obtain ⟨r1, e2, h⟩ := ob h
  refine x_callV (av := [.int l1]) (st := []) (pc := 2) dX9_more_2 (E_X9_isWord (d := d + 2) e2) rfl (Nat.le_of_ble_eq_true rfl) zc_X9_isWord rfl zm_X9_235 zi_X9_isWord zs_X9_isWord (zac_ok g11) (by decide) rfl rfl (zst_ok rfl (Nat.le_of_ble_eq_true rfl)) rfl ?_
  refine x_if_ne (pc := 5) dX9_more_5 (t := 11) rfl (fun c3 => ?_) (fun c3 => ?_)
  · rw [if_neg c3] at h
    refine x_aload_n (pc := 11) dX9_more_11 rfl rfl hl0 ?_
    obtain ⟨v4, e5, h⟩ := ob h
    refine y_getR (pc := 12) dX9_more_12 zf_X9_7 e5 ?_
    refine x_bipush (pc := 15) dX9_more_15 (v := 13) (by decide) ?_
    refine x_iload_n (pc := 17) dX9_more_17 rfl rfl ?_
    refine x_iadd (pc := 18) dX9_more_18 ?_
    obtain ⟨v6, e7, h⟩ := ob h
    refine y_iald (pc := 19) dX9_more_19 e7 ?_
    refine x_ineg (pc := 20) dX9_more_20 ?_
    refine x_istore_n (pc := 21) dX9_more_21 rfl (by decide) rfl ?_
    refine x_iconst (pc := 22) dX9_more_22 (v := 0) rfl ?_
    refine x_istore_n (pc := 23) dX9_more_23 rfl (by decide) rfl ?_
    obtain ⟨v9, e8, h⟩ := ob h
    refine ex_weak (Ls2 := [.ref l0, .int l1, .int (-v6), .int 0, .null]) ⟨Or.inr rfl, Or.inr rfl, Or.inr rfl, Or.inr rfl, Or.inl rfl, trivial⟩ ?_
    refine LX_X9_more_24 zN _ _ _ _ _ hl0 _ e8 ?_
    refine x_iload_n (pc := 75) dX9_more_75 rfl rfl ?_
    refine x_if_le (pc := 76) dX9_more_76 (t := 83) rfl (fun c10 => ?_) (fun c10 => ?_)
    · rw [if_pos c10] at h
      refine x_iconst (pc := 83) dX9_more_83 (v := 0) rfl ?_
      obtain rfl := s1 h
      exact y_retI (pc := 84) dX9_more_84 rfl
    · rw [if_neg c10] at h
      refine x_iload_n (pc := 79) dX9_more_79 rfl rfl ?_
      refine x_goto (pc := 80) dX9_more_80 (t := 84) rfl ?_
      obtain rfl := s1 h
      exact y_retI (pc := 84) dX9_more_84 rfl
  · rw [if_pos c3] at h
    refine x_ldc (pc := 8) dX9_more_8 zk_X9_238 ?_
    obtain rfl := s1 h
    exact y_retI (pc := 10) dX9_more_10 rfl
def L_X9_fire_29 : Nat → Nat → Int32 → Int32 → Int32 → zM → Option (zM)
  | 0, _, _, _, _, _ => none
  | n + 1, l0, l1, l2, l3, M => if 10 ≤ l3 then (some M) else ((oR M l0 9 58 46).bind fun v8 => (sI M v8 l3 0).bind fun M10 => L_X9_fire_29 n l0 l1 l2 (l3 + 1) M10)
def L_X9_fire_58 : Nat → Nat → Int32 → Int32 → Int32 → Int32 → zM → Option (zM)
  | 0, _, _, _, _, _, _ => none
  | n + 1, l0, l1, l2, l3, l4, M => if 10 ≤ l4 then (some M) else ((oR M l0 9 58 47).bind fun v11 => (oR M l0 9 58 46).bind fun v13 => (aI M v13 l4).bind fun v15 => (sI M v11 l4 v15).bind fun M17 => L_X9_fire_58 n l0 l1 l2 l3 (l4 + 1) M17)
def L_X9_fire_101 : Nat → Nat → Int32 → Int32 → Int32 → Int32 → Int32 → Int32 → zM → Option (Int32)
  | 0, _, _, _, _, _, _, _, _ => none
  | n + 1, l0, l1, l2, l3, l4, l5, l6, M => if 6 < l6 then (some l5) else ((oR M l0 9 58 47).bind fun v14 => (aI M v14 (l4 - 1)).bind fun v16 => (oR M l0 9 58 47).bind fun v18 => (aI M v18 l4).bind fun v20 => if (1000 * l6) + v16 ≤ v20 then ((oR M l0 9 58 47).bind fun v23 => (aI M v23 l4).bind fun v25 => L_X9_fire_101 n l0 l1 l2 l3 l4 (l5 + v25) (l6 + 1) M) else (L_X9_fire_101 n l0 l1 l2 l3 l4 (l5 + ((1000 * l6) + v16)) (l6 + 1) M))
def L_X9_fire_88 : Nat → Nat → Int32 → Int32 → Int32 → Int32 → zM → Option (zM)
  | 0, _, _, _, _, _, _ => none
  | n + 1, l0, l1, l2, l3, l4, M => if 10 ≤ l4 then (some M) else ((L_X9_fire_101 zN l0 l1 l2 l3 l4 0 1 M).bind fun v14 => (oR M l0 9 58 46).bind fun v15 => (dv v14 6).bind fun v17 => (sI M v15 l4 v17).bind fun M19 => L_X9_fire_88 n l0 l1 l2 l3 (l4 + 1) M19)
def L_X9_fire_50 : Nat → Nat → Int32 → Int32 → Int32 → zM → Option (zM)
  | 0, _, _, _, _, _ => none
  | n + 1, l0, l1, l2, l3, M => if l2 ≤ l3 then (some M) else ((L_X9_fire_58 zN l0 l1 l2 l3 0 M).bind fun M11 => (L_X9_fire_88 zN l0 l1 l2 l3 1 M11).bind fun M13 => L_X9_fire_50 n l0 l1 l2 (l3 + 1) M13)
def f_X9_fire (l0 : Nat) (l1 : Int32) (l2 : Int32) (M : zM) : Option (Int32 × zM) := bif Nat.ble 1 l0 then ((f_X9_in (Int32.toInt64 l1) 0 9 M).bind fun r1 => if r1 = 0 then (some ((-1000000002), M)) else ((f_X9_in (Int32.toInt64 l2) 0 20 M).bind fun r4 => if r4 = 0 then (some ((-1000000002), M)) else ((L_X9_fire_29 zN l0 l1 l2 0 M).bind fun M8 => (L_X9_fire_50 zN l0 l1 l2 0 M8).bind fun M10 => (oR M10 l0 9 58 46).bind fun v11 => (aI M10 v11 l1).bind fun v13 => some (v13, M10)))) else none
set_option maxRecDepth 100000 in
set_option maxHeartbeats 2000000 in
theorem LX_X9_fire_29 {G : zG} {d : Nat} : ∀ (n : Nat) (l0 : Nat) (l1 : Int32) (l2 : Int32) (l3 : Int32) (M : zM) (hl0 : l0 ≠ 0) (MX : zM) {res : Option Value × zM}, L_X9_fire_29 n l0 l1 l2 l3 M = some MX → Ex G (d + 1) yX9_fire cX9_fire 8 (some .int) 48 [.ref l0, .int l1, .int l2, .null, .null, .null, .null, .null] [] MX res → Ex G (d + 1) yX9_fire cX9_fire 8 (some .int) 29 [.ref l0, .int l1, .int l2, .int l3, .null, .null, .null, .null] [] M res := by
  intro n
  induction n with
  | zero =>
    intro l0 l1 l2 l3 M hl0 MX res h K
    simp [L_X9_fire_29] at h
  | succ n ih =>
    intro l0 l1 l2 l3 M hl0 MX res h K
    simp only [L_X9_fire_29] at h
    refine x_iload_n (pc := 29) dX9_fire_29 rfl rfl ?_
    refine x_bipush (pc := 30) dX9_fire_30 (v := 10) (by decide) ?_
    refine x_icmp_ge (pc := 32) dX9_fire_32 (t := 48) rfl (fun c7 => ?_) (fun c7 => ?_)
    · rw [if_pos c7] at h
      obtain rfl := s1 h
      refine ex_weak (Ls2 := [.ref l0, .int l1, .int l2, .null, .null, .null, .null, .null]) ⟨Or.inr rfl, Or.inr rfl, Or.inr rfl, Or.inl rfl, Or.inl rfl, Or.inl rfl, Or.inl rfl, Or.inl rfl, trivial⟩ ?_
      exact K
    · rw [if_neg c7] at h
      refine x_aload_n (pc := 35) dX9_fire_35 rfl rfl hl0 ?_
      obtain ⟨v8, e9, h⟩ := ob h
      refine y_getR (pc := 36) dX9_fire_36 zf_X9_87 e9 ?_
      refine x_iload_n (pc := 39) dX9_fire_39 rfl rfl ?_
      refine x_iconst (pc := 40) dX9_fire_40 (v := 0) rfl ?_
      obtain ⟨M10, e11, h⟩ := ob h
      refine y_iast (pc := 41) dX9_fire_41 e11 ?_
      refine x_iinc (pc := 42) dX9_fire_42 rfl rfl (by decide) rfl ?_
      refine x_goto (pc := 45) dX9_fire_45 (t := 29) rfl ?_
      refine ex_weak (Ls2 := [.ref l0, .int l1, .int l2, .int (l3 + 1), .null, .null, .null, .null]) ⟨Or.inr rfl, Or.inr rfl, Or.inr rfl, Or.inr rfl, Or.inl rfl, Or.inl rfl, Or.inl rfl, Or.inl rfl, trivial⟩ ?_
      exact ih _ _ _ _ _ hl0  _ h K
set_option maxRecDepth 100000 in
set_option maxHeartbeats 2000000 in
theorem LX_X9_fire_58 {G : zG} {d : Nat} : ∀ (n : Nat) (l0 : Nat) (l1 : Int32) (l2 : Int32) (l3 : Int32) (l4 : Int32) (M : zM) (hl0 : l0 ≠ 0) (MX : zM) {res : Option Value × zM}, L_X9_fire_58 n l0 l1 l2 l3 l4 M = some MX → Ex G (d + 1) yX9_fire cX9_fire 8 (some .int) 85 [.ref l0, .int l1, .int l2, .int l3, .null, .null, .null, .null] [] MX res → Ex G (d + 1) yX9_fire cX9_fire 8 (some .int) 58 [.ref l0, .int l1, .int l2, .int l3, .int l4, .null, .null, .null] [] M res := by
  intro n
  induction n with
  | zero =>
    intro l0 l1 l2 l3 l4 M hl0 MX res h K
    simp [L_X9_fire_58] at h
  | succ n ih =>
    intro l0 l1 l2 l3 l4 M hl0 MX res h K
    simp only [L_X9_fire_58] at h
    refine x_iload (pc := 58) dX9_fire_58 rfl ?_
    refine x_bipush (pc := 60) dX9_fire_60 (v := 10) (by decide) ?_
    refine x_icmp_ge (pc := 62) dX9_fire_62 (t := 85) rfl (fun c10 => ?_) (fun c10 => ?_)
    · rw [if_pos c10] at h
      obtain rfl := s1 h
      refine ex_weak (Ls2 := [.ref l0, .int l1, .int l2, .int l3, .null, .null, .null, .null]) ⟨Or.inr rfl, Or.inr rfl, Or.inr rfl, Or.inr rfl, Or.inl rfl, Or.inl rfl, Or.inl rfl, Or.inl rfl, trivial⟩ ?_
      exact K
    · rw [if_neg c10] at h
      refine x_aload_n (pc := 65) dX9_fire_65 rfl rfl hl0 ?_
      obtain ⟨v11, e12, h⟩ := ob h
      refine y_getR (pc := 66) dX9_fire_66 zf_X9_90 e12 ?_
      refine x_iload (pc := 69) dX9_fire_69 rfl ?_
      refine x_aload_n (pc := 71) dX9_fire_71 rfl rfl hl0 ?_
      obtain ⟨v13, e14, h⟩ := ob h
      refine y_getR (pc := 72) dX9_fire_72 zf_X9_87 e14 ?_
      refine x_iload (pc := 75) dX9_fire_75 rfl ?_
      obtain ⟨v15, e16, h⟩ := ob h
      refine y_iald (pc := 77) dX9_fire_77 e16 ?_
      obtain ⟨M17, e18, h⟩ := ob h
      refine y_iast (pc := 78) dX9_fire_78 e18 ?_
      refine x_iinc (pc := 79) dX9_fire_79 rfl rfl (by decide) rfl ?_
      refine x_goto (pc := 82) dX9_fire_82 (t := 58) rfl ?_
      refine ex_weak (Ls2 := [.ref l0, .int l1, .int l2, .int l3, .int (l4 + 1), .null, .null, .null]) ⟨Or.inr rfl, Or.inr rfl, Or.inr rfl, Or.inr rfl, Or.inr rfl, Or.inl rfl, Or.inl rfl, Or.inl rfl, trivial⟩ ?_
      exact ih _ _ _ _ _ _ hl0  _ h K
set_option maxRecDepth 100000 in
set_option maxHeartbeats 2000000 in
theorem LX_X9_fire_101 {G : zG} {d : Nat} : ∀ (n : Nat) (l0 : Nat) (l1 : Int32) (l2 : Int32) (l3 : Int32) (l4 : Int32) (l5 : Int32) (l6 : Int32) (M : zM) (hl0 : l0 ≠ 0) (o5 : Int32) {res : Option Value × zM}, L_X9_fire_101 n l0 l1 l2 l3 l4 l5 l6 M = some o5 → Ex G (d + 1) yX9_fire cX9_fire 8 (some .int) 161 [.ref l0, .int l1, .int l2, .int l3, .int l4, .int o5, .null, .null] [] M res → Ex G (d + 1) yX9_fire cX9_fire 8 (some .int) 101 [.ref l0, .int l1, .int l2, .int l3, .int l4, .int l5, .int l6, .null] [] M res := by
  intro n
  induction n with
  | zero =>
    intro l0 l1 l2 l3 l4 l5 l6 M hl0 o5 res h K
    simp [L_X9_fire_101] at h
  | succ n ih =>
    intro l0 l1 l2 l3 l4 l5 l6 M hl0 o5 res h K
    simp only [L_X9_fire_101] at h
    refine x_iload (pc := 101) dX9_fire_101 rfl ?_
    refine x_bipush (pc := 103) dX9_fire_103 (v := 6) (by decide) ?_
    refine x_icmp_gt (pc := 105) dX9_fire_105 (t := 161) rfl (fun c13 => ?_) (fun c13 => ?_)
    · rw [if_pos c13] at h
      obtain rfl := s1 h
      refine ex_weak (Ls2 := [.ref l0, .int l1, .int l2, .int l3, .int l4, .int l5, .null, .null]) ⟨Or.inr rfl, Or.inr rfl, Or.inr rfl, Or.inr rfl, Or.inr rfl, Or.inr rfl, Or.inl rfl, Or.inl rfl, trivial⟩ ?_
      exact K
    · rw [if_neg c13] at h
      refine x_sipush (pc := 108) dX9_fire_108 (v := 1000) (by decide) ?_
      refine x_iload (pc := 111) dX9_fire_111 rfl ?_
      refine x_imul (pc := 113) dX9_fire_113 ?_
      refine x_aload_n (pc := 114) dX9_fire_114 rfl rfl hl0 ?_
      obtain ⟨v14, e15, h⟩ := ob h
      refine y_getR (pc := 115) dX9_fire_115 zf_X9_90 e15 ?_
      refine x_iload (pc := 118) dX9_fire_118 rfl ?_
      refine x_iconst (pc := 120) dX9_fire_120 (v := 1) rfl ?_
      refine x_isub (pc := 121) dX9_fire_121 ?_
      obtain ⟨v16, e17, h⟩ := ob h
      refine y_iald (pc := 122) dX9_fire_122 e17 ?_
      refine x_iadd (pc := 123) dX9_fire_123 ?_
      refine x_istore (pc := 124) dX9_fire_124 (by decide) rfl ?_
      refine x_iload (pc := 126) dX9_fire_126 rfl ?_
      refine x_iload (pc := 128) dX9_fire_128 rfl ?_
      refine x_aload_n (pc := 130) dX9_fire_130 rfl rfl hl0 ?_
      obtain ⟨v18, e19, h⟩ := ob h
      refine y_getR (pc := 131) dX9_fire_131 zf_X9_90 e19 ?_
      refine x_iload (pc := 134) dX9_fire_134 rfl ?_
      obtain ⟨v20, e21, h⟩ := ob h
      refine y_iald (pc := 136) dX9_fire_136 e21 ?_
      refine x_icmp_le (pc := 137) dX9_fire_137 (t := 145) rfl (fun c22 => ?_) (fun c22 => ?_)
      · rw [if_pos c22] at h
        refine x_aload_n (pc := 145) dX9_fire_145 rfl rfl hl0 ?_
        obtain ⟨v23, e24, h⟩ := ob h
        refine y_getR (pc := 146) dX9_fire_146 zf_X9_90 e24 ?_
        refine x_iload (pc := 149) dX9_fire_149 rfl ?_
        obtain ⟨v25, e26, h⟩ := ob h
        refine y_iald (pc := 151) dX9_fire_151 e26 ?_
        refine x_iadd (pc := 152) dX9_fire_152 ?_
        refine x_istore (pc := 153) dX9_fire_153 (by decide) rfl ?_
        refine x_iinc (pc := 155) dX9_fire_155 rfl rfl (by decide) rfl ?_
        refine x_goto (pc := 158) dX9_fire_158 (t := 101) rfl ?_
        refine ex_weak (Ls2 := [.ref l0, .int l1, .int l2, .int l3, .int l4, .int (l5 + v25), .int (l6 + 1), .null]) ⟨Or.inr rfl, Or.inr rfl, Or.inr rfl, Or.inr rfl, Or.inr rfl, Or.inr rfl, Or.inr rfl, Or.inl rfl, trivial⟩ ?_
        exact ih _ _ _ _ _ _ _ _ hl0 _ h K
      · rw [if_neg c22] at h
        refine x_iload (pc := 140) dX9_fire_140 rfl ?_
        refine x_goto (pc := 142) dX9_fire_142 (t := 152) rfl ?_
        refine x_iadd (pc := 152) dX9_fire_152 ?_
        refine x_istore (pc := 153) dX9_fire_153 (by decide) rfl ?_
        refine x_iinc (pc := 155) dX9_fire_155 rfl rfl (by decide) rfl ?_
        refine x_goto (pc := 158) dX9_fire_158 (t := 101) rfl ?_
        refine ex_weak (Ls2 := [.ref l0, .int l1, .int l2, .int l3, .int l4, .int (l5 + ((1000 * l6) + v16)), .int (l6 + 1), .null]) ⟨Or.inr rfl, Or.inr rfl, Or.inr rfl, Or.inr rfl, Or.inr rfl, Or.inr rfl, Or.inr rfl, Or.inl rfl, trivial⟩ ?_
        exact ih _ _ _ _ _ _ _ _ hl0 _ h K
set_option maxRecDepth 100000 in
set_option maxHeartbeats 2000000 in
theorem LX_X9_fire_88 {G : zG} {d : Nat} : ∀ (n : Nat) (l0 : Nat) (l1 : Int32) (l2 : Int32) (l3 : Int32) (l4 : Int32) (M : zM) (hl0 : l0 ≠ 0) (MX : zM) {res : Option Value × zM}, L_X9_fire_88 n l0 l1 l2 l3 l4 M = some MX → Ex G (d + 1) yX9_fire cX9_fire 8 (some .int) 179 [.ref l0, .int l1, .int l2, .int l3, .null, .null, .null, .null] [] MX res → Ex G (d + 1) yX9_fire cX9_fire 8 (some .int) 88 [.ref l0, .int l1, .int l2, .int l3, .int l4, .null, .null, .null] [] M res := by
  intro n
  induction n with
  | zero =>
    intro l0 l1 l2 l3 l4 M hl0 MX res h K
    simp [L_X9_fire_88] at h
  | succ n ih =>
    intro l0 l1 l2 l3 l4 M hl0 MX res h K
    simp only [L_X9_fire_88] at h
    refine x_iload (pc := 88) dX9_fire_88 rfl ?_
    refine x_bipush (pc := 90) dX9_fire_90 (v := 10) (by decide) ?_
    refine x_icmp_ge (pc := 92) dX9_fire_92 (t := 179) rfl (fun c12 => ?_) (fun c12 => ?_)
    · rw [if_pos c12] at h
      obtain rfl := s1 h
      refine ex_weak (Ls2 := [.ref l0, .int l1, .int l2, .int l3, .null, .null, .null, .null]) ⟨Or.inr rfl, Or.inr rfl, Or.inr rfl, Or.inr rfl, Or.inl rfl, Or.inl rfl, Or.inl rfl, Or.inl rfl, trivial⟩ ?_
      exact K
    · rw [if_neg c12] at h
      refine x_iconst (pc := 95) dX9_fire_95 (v := 0) rfl ?_
      refine x_istore (pc := 96) dX9_fire_96 (by decide) rfl ?_
      refine x_iconst (pc := 98) dX9_fire_98 (v := 1) rfl ?_
      refine x_istore (pc := 99) dX9_fire_99 (by decide) rfl ?_
      obtain ⟨v14, e13, h⟩ := ob h
      refine ex_weak (Ls2 := [.ref l0, .int l1, .int l2, .int l3, .int l4, .int 0, .int 1, .null]) ⟨Or.inr rfl, Or.inr rfl, Or.inr rfl, Or.inr rfl, Or.inr rfl, Or.inr rfl, Or.inr rfl, Or.inl rfl, trivial⟩ ?_
      refine LX_X9_fire_101 zN _ _ _ _ _ _ _ _ hl0 _ e13 ?_
      refine x_aload_n (pc := 161) dX9_fire_161 rfl rfl hl0 ?_
      obtain ⟨v15, e16, h⟩ := ob h
      refine y_getR (pc := 162) dX9_fire_162 zf_X9_87 e16 ?_
      refine x_iload (pc := 165) dX9_fire_165 rfl ?_
      refine x_iload (pc := 167) dX9_fire_167 rfl ?_
      refine x_bipush (pc := 169) dX9_fire_169 (v := 6) (by decide) ?_
      obtain ⟨v17, e18, h⟩ := ob h
      refine y_idiv (pc := 171) dX9_fire_171 e18 ?_
      obtain ⟨M19, e20, h⟩ := ob h
      refine y_iast (pc := 172) dX9_fire_172 e20 ?_
      refine x_iinc (pc := 173) dX9_fire_173 rfl rfl (by decide) rfl ?_
      refine x_goto (pc := 176) dX9_fire_176 (t := 88) rfl ?_
      refine ex_weak (Ls2 := [.ref l0, .int l1, .int l2, .int l3, .int (l4 + 1), .null, .null, .null]) ⟨Or.inr rfl, Or.inr rfl, Or.inr rfl, Or.inr rfl, Or.inr rfl, Or.inl rfl, Or.inl rfl, Or.inl rfl, trivial⟩ ?_
      exact ih _ _ _ _ _ _ hl0  _ h K
set_option maxRecDepth 100000 in
set_option maxHeartbeats 2000000 in
theorem LX_X9_fire_50 {G : zG} {d : Nat} : ∀ (n : Nat) (l0 : Nat) (l1 : Int32) (l2 : Int32) (l3 : Int32) (M : zM) (hl0 : l0 ≠ 0) (MX : zM) {res : Option Value × zM}, L_X9_fire_50 n l0 l1 l2 l3 M = some MX → Ex G (d + 1) yX9_fire cX9_fire 8 (some .int) 185 [.ref l0, .int l1, .null, .null, .null, .null, .null, .null] [] MX res → Ex G (d + 1) yX9_fire cX9_fire 8 (some .int) 50 [.ref l0, .int l1, .int l2, .int l3, .null, .null, .null, .null] [] M res := by
  intro n
  induction n with
  | zero =>
    intro l0 l1 l2 l3 M hl0 MX res h K
    simp [L_X9_fire_50] at h
  | succ n ih =>
    intro l0 l1 l2 l3 M hl0 MX res h K
    simp only [L_X9_fire_50] at h
    refine x_iload_n (pc := 50) dX9_fire_50 rfl rfl ?_
    refine x_iload_n (pc := 51) dX9_fire_51 rfl rfl ?_
    refine x_icmp_ge (pc := 52) dX9_fire_52 (t := 185) rfl (fun c9 => ?_) (fun c9 => ?_)
    · rw [if_pos c9] at h
      obtain rfl := s1 h
      refine ex_weak (Ls2 := [.ref l0, .int l1, .null, .null, .null, .null, .null, .null]) ⟨Or.inr rfl, Or.inr rfl, Or.inl rfl, Or.inl rfl, Or.inl rfl, Or.inl rfl, Or.inl rfl, Or.inl rfl, trivial⟩ ?_
      exact K
    · rw [if_neg c9] at h
      refine x_iconst (pc := 55) dX9_fire_55 (v := 0) rfl ?_
      refine x_istore (pc := 56) dX9_fire_56 (by decide) rfl ?_
      obtain ⟨M11, e10, h⟩ := ob h
      refine ex_weak (Ls2 := [.ref l0, .int l1, .int l2, .int l3, .int 0, .null, .null, .null]) ⟨Or.inr rfl, Or.inr rfl, Or.inr rfl, Or.inr rfl, Or.inr rfl, Or.inl rfl, Or.inl rfl, Or.inl rfl, trivial⟩ ?_
      refine LX_X9_fire_58 zN _ _ _ _ _ _ hl0 _ e10 ?_
      refine x_iconst (pc := 85) dX9_fire_85 (v := 1) rfl ?_
      refine x_istore (pc := 86) dX9_fire_86 (by decide) rfl ?_
      obtain ⟨M13, e12, h⟩ := ob h
      refine ex_weak (Ls2 := [.ref l0, .int l1, .int l2, .int l3, .int 1, .null, .null, .null]) ⟨Or.inr rfl, Or.inr rfl, Or.inr rfl, Or.inr rfl, Or.inr rfl, Or.inl rfl, Or.inl rfl, Or.inl rfl, trivial⟩ ?_
      refine LX_X9_fire_88 zN _ _ _ _ _ _ hl0 _ e12 ?_
      refine x_iinc (pc := 179) dX9_fire_179 rfl rfl (by decide) rfl ?_
      refine x_goto (pc := 182) dX9_fire_182 (t := 50) rfl ?_
      refine ex_weak (Ls2 := [.ref l0, .int l1, .int l2, .int (l3 + 1), .null, .null, .null, .null]) ⟨Or.inr rfl, Or.inr rfl, Or.inr rfl, Or.inr rfl, Or.inl rfl, Or.inl rfl, Or.inl rfl, Or.inl rfl, trivial⟩ ?_
      exact ih _ _ _ _ _ hl0  _ h K
set_option maxRecDepth 100000 in
set_option maxHeartbeats 2000000 in
theorem E_X9_fire {G : zG} {d : Nat} {l0 : Nat} {l1 : Int32} {l2 : Int32} {M MR : zM} {r : Int32} (h : f_X9_fire l0 l1 l2 M = some (r, MR)) : Ex G (d + 1) yX9_fire cX9_fire 8 (some .int) 0 (zent0 [.ref l0, .int l1, .int l2] 8) [] M (some (.int r), MR) := by
  unfold f_X9_fire at h
  obtain ⟨zz0, h⟩ := bt h
  have hl0 := bz zz0
  show Ex _ _ _ _ _ _ 0 [.ref l0, .int l1, .int l2, .null, .null, .null, .null, .null] [] _ _
  refine x_iload_n (pc := 0) dX9_fire_0 rfl rfl ?_
  refine x_i2l (pc := 1) dX9_fire_1 ?_
  refine x_lconst (pc := 2) dX9_fire_2 (v := 0) rfl ?_
  refine x_ldc2 (pc := 3) dX9_fire_3 zk_X9_369 ?_
  obtain ⟨r1, e2, h⟩ := ob h
  refine x_callS (av := [.long (Int32.toInt64 l1), .long 0, .long 9]) (st := []) (pc := 6) dX9_fire_6 (E_X9_in (d := d) e2) rfl (Nat.le_of_ble_eq_true rfl) zc_X9_in rfl zm_X9_120 zs_X9_in rfl (zst_ok rfl (Nat.le_of_ble_eq_true rfl)) rfl ?_
  refine x_if_eq (pc := 9) dX9_fire_9 (t := 24) rfl (fun c3 => ?_) (fun c3 => ?_)
  · rw [if_pos c3] at h
    refine x_ldc (pc := 24) dX9_fire_24 zk_X9_133 ?_
    obtain ⟨rfl, rfl⟩ := s2 h
    exact y_retI (pc := 26) dX9_fire_26 rfl
  · rw [if_neg c3] at h
    refine x_iload_n (pc := 12) dX9_fire_12 rfl rfl ?_
    refine x_i2l (pc := 13) dX9_fire_13 ?_
    refine x_lconst (pc := 14) dX9_fire_14 (v := 0) rfl ?_
    refine x_ldc2 (pc := 15) dX9_fire_15 zk_X9_371 ?_
    obtain ⟨r4, e5, h⟩ := ob h
    refine x_callS (av := [.long (Int32.toInt64 l2), .long 0, .long 20]) (st := []) (pc := 18) dX9_fire_18 (E_X9_in (d := d) e5) rfl (Nat.le_of_ble_eq_true rfl) zc_X9_in rfl zm_X9_120 zs_X9_in rfl (zst_ok rfl (Nat.le_of_ble_eq_true rfl)) rfl ?_
    refine x_if_ne (pc := 21) dX9_fire_21 (t := 27) rfl (fun c6 => ?_) (fun c6 => ?_)
    · rw [if_neg c6] at h
      refine x_iconst (pc := 27) dX9_fire_27 (v := 0) rfl ?_
      refine x_istore_n (pc := 28) dX9_fire_28 rfl (by decide) rfl ?_
      obtain ⟨M8, e7, h⟩ := ob h
      refine ex_weak (Ls2 := [.ref l0, .int l1, .int l2, .int 0, .null, .null, .null, .null]) ⟨Or.inr rfl, Or.inr rfl, Or.inr rfl, Or.inr rfl, Or.inl rfl, Or.inl rfl, Or.inl rfl, Or.inl rfl, trivial⟩ ?_
      refine LX_X9_fire_29 zN _ _ _ _ _ hl0 _ e7 ?_
      refine x_iconst (pc := 48) dX9_fire_48 (v := 0) rfl ?_
      refine x_istore_n (pc := 49) dX9_fire_49 rfl (by decide) rfl ?_
      obtain ⟨M10, e9, h⟩ := ob h
      refine ex_weak (Ls2 := [.ref l0, .int l1, .int l2, .int 0, .null, .null, .null, .null]) ⟨Or.inr rfl, Or.inr rfl, Or.inr rfl, Or.inr rfl, Or.inl rfl, Or.inl rfl, Or.inl rfl, Or.inl rfl, trivial⟩ ?_
      refine LX_X9_fire_50 zN _ _ _ _ _ hl0 _ e9 ?_
      refine x_aload_n (pc := 185) dX9_fire_185 rfl rfl hl0 ?_
      obtain ⟨v11, e12, h⟩ := ob h
      refine y_getR (pc := 186) dX9_fire_186 zf_X9_87 e12 ?_
      refine x_iload_n (pc := 189) dX9_fire_189 rfl rfl ?_
      obtain ⟨v13, e14, h⟩ := ob h
      refine y_iald (pc := 190) dX9_fire_190 e14 ?_
      obtain ⟨rfl, rfl⟩ := s2 h
      exact y_retI (pc := 191) dX9_fire_191 rfl
    · rw [if_pos c6] at h
      refine x_ldc (pc := 24) dX9_fire_24 zk_X9_133 ?_
      obtain ⟨rfl, rfl⟩ := s2 h
      exact y_retI (pc := 26) dX9_fire_26 rfl
def L_X9_rhymes_17 : Nat → Nat → Int32 → Int32 → Int32 → Int32 → zM → Option ((Int32) ⊕ (Int32))
  | 0, _, _, _, _, _, _ => none
  | n + 1, l0, l1, l2, l3, l4, M => (oI M l0 9 58 6).bind fun v4 => if v4 ≤ l4 then (some (.inr l2)) else ((oR M l0 9 58 10).bind fun v7 => (aI M v7 l3).bind fun v9 => (oR M l0 9 58 10).bind fun v11 => (aI M v11 l4).bind fun v13 => if v9 = v13 then ((oR M l0 9 58 0).bind fun v16 => (aI M v16 (13 + l3)).bind fun v18 => if v18 ≤ 0 then (L_X9_rhymes_17 n l0 l1 l2 l3 (l4 + 1) M) else ((oR M l0 9 58 0).bind fun v21 => (aI M v21 (13 + l4)).bind fun v23 => if v23 ≤ 0 then (L_X9_rhymes_17 n l0 l1 l2 l3 (l4 + 1) M) else (if l2 = l1 then (some (.inl ((10 * l3) + l4))) else (L_X9_rhymes_17 n l0 l1 (l2 + 1) l3 (l4 + 1) M)))) else (L_X9_rhymes_17 n l0 l1 l2 l3 (l4 + 1) M))
def L_X9_rhymes_4 : Nat → Nat → Int32 → Int32 → Int32 → zM → Option ((Int32) ⊕ (Int32))
  | 0, _, _, _, _, _ => none
  | n + 1, l0, l1, l2, l3, M => (oI M l0 9 58 6).bind fun v1 => if v1 ≤ l3 then (some (.inr l2)) else (bs (L_X9_rhymes_17 zN l0 l1 l2 l3 (l3 + 1) M) (fun r => some (.inl r)) (fun v5 => L_X9_rhymes_4 n l0 l1 v5 (l3 + 1) M))
def f_X9_rhymes (l0 : Nat) (l1 : Int32) (M : zM) : Option (Int32) := bif Nat.ble 1 l0 then (bs (L_X9_rhymes_4 zN l0 l1 0 0 M) some (fun v2 => if l1 = (-1) then (some v2) else (some (-1)))) else none
theorem LX_X9_rhymes_17 {G : zG} {d : Nat} : ∀ (n : Nat) (l0 : Nat) (l1 : Int32) (l2 : Int32) (l3 : Int32) (l4 : Int32) (M : zM) (hl0 : l0 ≠ 0) (e : (Int32) ⊕ (Int32)) {res : Option Value × zM}, L_X9_rhymes_17 n l0 l1 l2 l3 l4 M = some e → (∀ r, e = .inl r → res = (some (.int r), M)) → (∀ (o2 : Int32), e = .inr o2 → Ex G d yX9_rhymes cX9_rhymes 5 (some .int) 89 [.ref l0, .int l1, .int o2, .int l3, .null] [] M res) → Ex G d yX9_rhymes cX9_rhymes 5 (some .int) 17 [.ref l0, .int l1, .int l2, .int l3, .int l4] [] M res := by
  intro n
  induction n with
  | zero =>
    intro l0 l1 l2 l3 l4 M hl0 e res h K1 K2
    simp [L_X9_rhymes_17] at h
  | succ n ih =>
    intro l0 l1 l2 l3 l4 M hl0 e res h K1 K2
    simp only [L_X9_rhymes_17] at h
    refine x_iload (pc := 17) dX9_rhymes_17 rfl ?_
    refine x_aload_n (pc := 19) dX9_rhymes_19 rfl rfl hl0 ?_
    obtain ⟨v4, e5, h⟩ := ob h
    refine y_getI (pc := 20) dX9_rhymes_20 zf_X9_117 e5 (by decide) ?_
    refine x_icmp_ge (pc := 23) dX9_rhymes_23 (t := 89) rfl (fun c6 => ?_) (fun c6 => ?_)
    · rw [if_pos c6] at h
      obtain rfl := s1 h
      refine ex_weak (Ls2 := [.ref l0, .int l1, .int l2, .int l3, .null]) ⟨Or.inr rfl, Or.inr rfl, Or.inr rfl, Or.inr rfl, Or.inl rfl, trivial⟩ ?_
      exact K2 _ rfl
    · rw [if_neg c6] at h
      refine x_aload_n (pc := 26) dX9_rhymes_26 rfl rfl hl0 ?_
      obtain ⟨v7, e8, h⟩ := ob h
      refine y_getR (pc := 27) dX9_rhymes_27 zf_X9_22 e8 ?_
      refine x_iload_n (pc := 30) dX9_rhymes_30 rfl rfl ?_
      obtain ⟨v9, e10, h⟩ := ob h
      refine y_iald (pc := 31) dX9_rhymes_31 e10 ?_
      refine x_aload_n (pc := 32) dX9_rhymes_32 rfl rfl hl0 ?_
      obtain ⟨v11, e12, h⟩ := ob h
      refine y_getR (pc := 33) dX9_rhymes_33 zf_X9_22 e12 ?_
      refine x_iload (pc := 36) dX9_rhymes_36 rfl ?_
      obtain ⟨v13, e14, h⟩ := ob h
      refine y_iald (pc := 38) dX9_rhymes_38 e14 ?_
      refine x_icmp_ne (pc := 39) dX9_rhymes_39 (t := 83) rfl (fun c15 => ?_) (fun c15 => ?_)
      · rw [if_neg c15] at h
        refine x_iinc (pc := 83) dX9_rhymes_83 rfl rfl (by decide) rfl ?_
        refine x_goto (pc := 86) dX9_rhymes_86 (t := 17) rfl ?_
        refine ex_weak (Ls2 := [.ref l0, .int l1, .int l2, .int l3, .int (l4 + 1)]) ⟨Or.inr rfl, Or.inr rfl, Or.inr rfl, Or.inr rfl, Or.inr rfl, trivial⟩ ?_
        exact ih _ _ _ _ _ _ hl0 _ h K1 K2
      · rw [if_pos c15] at h
        refine x_aload_n (pc := 42) dX9_rhymes_42 rfl rfl hl0 ?_
        obtain ⟨v16, e17, h⟩ := ob h
        refine y_getR (pc := 43) dX9_rhymes_43 zf_X9_7 e17 ?_
        refine x_bipush (pc := 46) dX9_rhymes_46 (v := 13) (by decide) ?_
        refine x_iload_n (pc := 48) dX9_rhymes_48 rfl rfl ?_
        refine x_iadd (pc := 49) dX9_rhymes_49 ?_
        obtain ⟨v18, e19, h⟩ := ob h
        refine y_iald (pc := 50) dX9_rhymes_50 e19 ?_
        refine x_if_le (pc := 51) dX9_rhymes_51 (t := 83) rfl (fun c20 => ?_) (fun c20 => ?_)
        · rw [if_pos c20] at h
          refine x_iinc (pc := 83) dX9_rhymes_83 rfl rfl (by decide) rfl ?_
          refine x_goto (pc := 86) dX9_rhymes_86 (t := 17) rfl ?_
          refine ex_weak (Ls2 := [.ref l0, .int l1, .int l2, .int l3, .int (l4 + 1)]) ⟨Or.inr rfl, Or.inr rfl, Or.inr rfl, Or.inr rfl, Or.inr rfl, trivial⟩ ?_
          exact ih _ _ _ _ _ _ hl0 _ h K1 K2
        · rw [if_neg c20] at h
          refine x_aload_n (pc := 54) dX9_rhymes_54 rfl rfl hl0 ?_
          obtain ⟨v21, e22, h⟩ := ob h
          refine y_getR (pc := 55) dX9_rhymes_55 zf_X9_7 e22 ?_
          refine x_bipush (pc := 58) dX9_rhymes_58 (v := 13) (by decide) ?_
          refine x_iload (pc := 60) dX9_rhymes_60 rfl ?_
          refine x_iadd (pc := 62) dX9_rhymes_62 ?_
          obtain ⟨v23, e24, h⟩ := ob h
          refine y_iald (pc := 63) dX9_rhymes_63 e24 ?_
          refine x_if_le (pc := 64) dX9_rhymes_64 (t := 83) rfl (fun c25 => ?_) (fun c25 => ?_)
          · rw [if_pos c25] at h
            refine x_iinc (pc := 83) dX9_rhymes_83 rfl rfl (by decide) rfl ?_
            refine x_goto (pc := 86) dX9_rhymes_86 (t := 17) rfl ?_
            refine ex_weak (Ls2 := [.ref l0, .int l1, .int l2, .int l3, .int (l4 + 1)]) ⟨Or.inr rfl, Or.inr rfl, Or.inr rfl, Or.inr rfl, Or.inr rfl, trivial⟩ ?_
            exact ih _ _ _ _ _ _ hl0 _ h K1 K2
          · rw [if_neg c25] at h
            refine x_iload_n (pc := 67) dX9_rhymes_67 rfl rfl ?_
            refine x_iload_n (pc := 68) dX9_rhymes_68 rfl rfl ?_
            refine x_icmp_ne (pc := 69) dX9_rhymes_69 (t := 80) rfl (fun c26 => ?_) (fun c26 => ?_)
            · rw [if_neg c26] at h
              refine x_iinc (pc := 80) dX9_rhymes_80 rfl rfl (by decide) rfl ?_
              refine x_iinc (pc := 83) dX9_rhymes_83 rfl rfl (by decide) rfl ?_
              refine x_goto (pc := 86) dX9_rhymes_86 (t := 17) rfl ?_
              refine ex_weak (Ls2 := [.ref l0, .int l1, .int (l2 + 1), .int l3, .int (l4 + 1)]) ⟨Or.inr rfl, Or.inr rfl, Or.inr rfl, Or.inr rfl, Or.inr rfl, trivial⟩ ?_
              exact ih _ _ _ _ _ _ hl0 _ h K1 K2
            · rw [if_pos c26] at h
              refine x_bipush (pc := 72) dX9_rhymes_72 (v := 10) (by decide) ?_
              refine x_iload_n (pc := 74) dX9_rhymes_74 rfl rfl ?_
              refine x_imul (pc := 75) dX9_rhymes_75 ?_
              refine x_iload (pc := 76) dX9_rhymes_76 rfl ?_
              refine x_iadd (pc := 78) dX9_rhymes_78 ?_
              obtain rfl := s1 h
              rw [K1 _ rfl]
              exact y_retI (pc := 79) dX9_rhymes_79 rfl
theorem LX_X9_rhymes_4 {G : zG} {d : Nat} : ∀ (n : Nat) (l0 : Nat) (l1 : Int32) (l2 : Int32) (l3 : Int32) (M : zM) (hl0 : l0 ≠ 0) (e : (Int32) ⊕ (Int32)) {res : Option Value × zM}, L_X9_rhymes_4 n l0 l1 l2 l3 M = some e → (∀ r, e = .inl r → res = (some (.int r), M)) → (∀ (o2 : Int32), e = .inr o2 → Ex G d yX9_rhymes cX9_rhymes 5 (some .int) 95 [.null, .int l1, .int o2, .null, .null] [] M res) → Ex G d yX9_rhymes cX9_rhymes 5 (some .int) 4 [.ref l0, .int l1, .int l2, .int l3, .null] [] M res := by
  intro n
  induction n with
  | zero =>
    intro l0 l1 l2 l3 M hl0 e res h K1 K2
    simp [L_X9_rhymes_4] at h
  | succ n ih =>
    intro l0 l1 l2 l3 M hl0 e res h K1 K2
    simp only [L_X9_rhymes_4] at h
    refine x_iload_n (pc := 4) dX9_rhymes_4 rfl rfl ?_
    refine x_aload_n (pc := 5) dX9_rhymes_5 rfl rfl hl0 ?_
    obtain ⟨v1, e2, h⟩ := ob h
    refine y_getI (pc := 6) dX9_rhymes_6 zf_X9_117 e2 (by decide) ?_
    refine x_icmp_ge (pc := 9) dX9_rhymes_9 (t := 95) rfl (fun c3 => ?_) (fun c3 => ?_)
    · rw [if_pos c3] at h
      obtain rfl := s1 h
      refine ex_weak (Ls2 := [.null, .int l1, .int l2, .null, .null]) ⟨Or.inl rfl, Or.inr rfl, Or.inr rfl, Or.inl rfl, Or.inl rfl, trivial⟩ ?_
      exact K2 _ rfl
    · rw [if_neg c3] at h
      refine x_iload_n (pc := 12) dX9_rhymes_12 rfl rfl ?_
      refine x_iconst (pc := 13) dX9_rhymes_13 (v := 1) rfl ?_
      refine x_iadd (pc := 14) dX9_rhymes_14 ?_
      refine x_istore (pc := 15) dX9_rhymes_15 (by decide) rfl ?_
      refine ex_weak (Ls2 := [.ref l0, .int l1, .int l2, .int l3, .int (l3 + 1)]) ⟨Or.inr rfl, Or.inr rfl, Or.inr rfl, Or.inr rfl, Or.inr rfl, trivial⟩ ?_
      rcases obs h with ⟨r6, e4, h⟩ | ⟨v5, e4, h⟩
      · cases h
        exact LX_X9_rhymes_17 zN _ _ _ _ _ _ hl0 _ e4 (fun r q => by cases q; exact K1 _ rfl) (by intros; contradiction)
      · refine LX_X9_rhymes_17 zN _ _ _ _ _ _ hl0 _ e4 (fun r q => by cases q) ?_
        intro u7 q
        cases q
        refine x_iinc (pc := 89) dX9_rhymes_89 rfl rfl (by decide) rfl ?_
        refine x_goto (pc := 92) dX9_rhymes_92 (t := 4) rfl ?_
        refine ex_weak (Ls2 := [.ref l0, .int l1, .int v5, .int (l3 + 1), .null]) ⟨Or.inr rfl, Or.inr rfl, Or.inr rfl, Or.inr rfl, Or.inl rfl, trivial⟩ ?_
        exact ih _ _ _ _ _ hl0 _ h K1 K2
theorem E_X9_rhymes {G : zG} {d : Nat} {l0 : Nat} {l1 : Int32} {M : zM} {r : Int32} (h : f_X9_rhymes l0 l1 M = some r) : Ex G d yX9_rhymes cX9_rhymes 5 (some .int) 0 (zent0 [.ref l0, .int l1] 5) [] M (some (.int r), M) := by
  unfold f_X9_rhymes at h
  obtain ⟨zz0, h⟩ := bt h
  have hl0 := bz zz0
  show Ex _ _ _ _ _ _ 0 [.ref l0, .int l1, .null, .null, .null] [] _ _
  refine x_iconst (pc := 0) dX9_rhymes_0 (v := 0) rfl ?_
  refine x_istore_n (pc := 1) dX9_rhymes_1 rfl (by decide) rfl ?_
  refine x_iconst (pc := 2) dX9_rhymes_2 (v := 0) rfl ?_
  refine x_istore_n (pc := 3) dX9_rhymes_3 rfl (by decide) rfl ?_
  refine ex_weak (Ls2 := [.ref l0, .int l1, .int 0, .int 0, .null]) ⟨Or.inr rfl, Or.inr rfl, Or.inr rfl, Or.inr rfl, Or.inl rfl, trivial⟩ ?_
  rcases obs h with ⟨r4, e1, h⟩ | ⟨v2, e1, h⟩
  · cases h
    exact LX_X9_rhymes_4 zN _ _ _ _ _ hl0 _ e1 (fun r q => by cases q; rfl) (by intros; contradiction)
  · refine LX_X9_rhymes_4 zN _ _ _ _ _ hl0 _ e1 (fun r q => by cases q) ?_
    intro u5 q
    cases q
    refine x_iload_n (pc := 95) dX9_rhymes_95 rfl rfl ?_
    refine x_iconst (pc := 96) dX9_rhymes_96 (v := (-1)) rfl ?_
    refine x_icmp_ne (pc := 97) dX9_rhymes_97 (t := 104) rfl (fun c3 => ?_) (fun c3 => ?_)
    · rw [if_neg c3] at h
      refine x_iconst (pc := 104) dX9_rhymes_104 (v := (-1)) rfl ?_
      obtain rfl := s1 h
      exact y_retI (pc := 105) dX9_rhymes_105 rfl
    · rw [if_pos c3] at h
      refine x_iload_n (pc := 100) dX9_rhymes_100 rfl rfl ?_
      refine x_goto (pc := 101) dX9_rhymes_101 (t := 105) rfl ?_
      obtain rfl := s1 h
      exact y_retI (pc := 105) dX9_rhymes_105 rfl
def L_X9_silent_34 : Nat → Int32 → Int32 → Int64 → Int32 → zM → Option (Int64)
  | 0, _, _, _, _, _ => none
  | n + 1, l1, l2, l3, l5, M => if l1 ≤ l5 then (some l3) else ((ldv (l3 * (Int32.toInt64 l2)) 100).bind fun v8 => L_X9_silent_34 n l1 l2 v8 (l5 + 1) M)
def f_X9_silent (l0 : Nat) (l1 : Int32) (l2 : Int32) (M : zM) : Option (Int32) := bif Nat.ble 1 l0 then ((f_X9_in (Int32.toInt64 l1) 0 60 M).bind fun r1 => if r1 = 0 then (some (-1000000002)) else ((f_X9_in (Int32.toInt64 l2) 0 100 M).bind fun r4 => if r4 = 0 then (some (-1000000002)) else ((L_X9_silent_34 zN l1 l2 1000000000 0 M).bind fun v8 => some (Int64.toInt32 v8)))) else none
theorem LX_X9_silent_34 {G : zG} {d : Nat} : ∀ (n : Nat) (l1 : Int32) (l2 : Int32) (l3 : Int64) (l5 : Int32) (M : zM)  (o3 : Int64) {res : Option Value × zM}, L_X9_silent_34 n l1 l2 l3 l5 M = some o3 → Ex G (d + 1) yX9_silent cX9_silent 6 (some .int) 55 [.null, .null, .null, .long o3, .null, .null] [] M res → Ex G (d + 1) yX9_silent cX9_silent 6 (some .int) 34 [.null, .int l1, .int l2, .long l3, .null, .int l5] [] M res := by
  intro n
  induction n with
  | zero =>
    intro l1 l2 l3 l5 M o3 res h K
    simp [L_X9_silent_34] at h
  | succ n ih =>
    intro l1 l2 l3 l5 M o3 res h K
    simp only [L_X9_silent_34] at h
    refine x_iload (pc := 34) dX9_silent_34 rfl ?_
    refine x_iload_n (pc := 36) dX9_silent_36 rfl rfl ?_
    refine x_icmp_ge (pc := 37) dX9_silent_37 (t := 55) rfl (fun c7 => ?_) (fun c7 => ?_)
    · rw [if_pos c7] at h
      obtain rfl := s1 h
      refine ex_weak (Ls2 := [.null, .null, .null, .long l3, .null, .null]) ⟨Or.inl rfl, Or.inl rfl, Or.inl rfl, Or.inr rfl, Or.inl rfl, Or.inl rfl, trivial⟩ ?_
      exact K
    · rw [if_neg c7] at h
      refine x_lload_n (pc := 40) dX9_silent_40 rfl rfl ?_
      refine x_iload_n (pc := 41) dX9_silent_41 rfl rfl ?_
      refine x_i2l (pc := 42) dX9_silent_42 ?_
      refine x_lmul (pc := 43) dX9_silent_43 ?_
      refine x_ldc2 (pc := 44) dX9_silent_44 zk_X9_373 ?_
      obtain ⟨v8, e9, h⟩ := ob h
      refine y_ldiv (pc := 47) dX9_silent_47 e9 ?_
      refine x_lstore_n (pc := 48) dX9_silent_48 rfl (by decide) rfl ?_
      refine x_iinc (pc := 49) dX9_silent_49 rfl rfl (by decide) rfl ?_
      refine x_goto (pc := 52) dX9_silent_52 (t := 34) rfl ?_
      refine ex_weak (Ls2 := [.null, .int l1, .int l2, .long v8, .null, .int (l5 + 1)]) ⟨Or.inl rfl, Or.inr rfl, Or.inr rfl, Or.inr rfl, Or.inl rfl, Or.inr rfl, trivial⟩ ?_
      exact ih _ _ _ _ _ _ h K
theorem E_X9_silent {G : zG} {d : Nat} {l0 : Nat} {l1 : Int32} {l2 : Int32} {M : zM} {r : Int32} (h : f_X9_silent l0 l1 l2 M = some r) : Ex G (d + 1) yX9_silent cX9_silent 6 (some .int) 0 (zent0 [.ref l0, .int l1, .int l2] 6) [] M (some (.int r), M) := by
  unfold f_X9_silent at h
  obtain ⟨zz0, h⟩ := bt h
  have hl0 := bz zz0
  show Ex _ _ _ _ _ _ 0 [.ref l0, .int l1, .int l2, .null, .null, .null] [] _ _
  refine x_iload_n (pc := 0) dX9_silent_0 rfl rfl ?_
  refine x_i2l (pc := 1) dX9_silent_1 ?_
  refine x_lconst (pc := 2) dX9_silent_2 (v := 0) rfl ?_
  refine x_ldc2 (pc := 3) dX9_silent_3 zk_X9_284 ?_
  obtain ⟨r1, e2, h⟩ := ob h
  refine x_callS (av := [.long (Int32.toInt64 l1), .long 0, .long 60]) (st := []) (pc := 6) dX9_silent_6 (E_X9_in (d := d) e2) rfl (Nat.le_of_ble_eq_true rfl) zc_X9_in rfl zm_X9_120 zs_X9_in rfl (zst_ok rfl (Nat.le_of_ble_eq_true rfl)) rfl ?_
  refine x_if_eq (pc := 9) dX9_silent_9 (t := 24) rfl (fun c3 => ?_) (fun c3 => ?_)
  · rw [if_pos c3] at h
    refine x_ldc (pc := 24) dX9_silent_24 zk_X9_133 ?_
    obtain rfl := s1 h
    exact y_retI (pc := 26) dX9_silent_26 rfl
  · rw [if_neg c3] at h
    refine x_iload_n (pc := 12) dX9_silent_12 rfl rfl ?_
    refine x_i2l (pc := 13) dX9_silent_13 ?_
    refine x_lconst (pc := 14) dX9_silent_14 (v := 0) rfl ?_
    refine x_ldc2 (pc := 15) dX9_silent_15 zk_X9_373 ?_
    obtain ⟨r4, e5, h⟩ := ob h
    refine x_callS (av := [.long (Int32.toInt64 l2), .long 0, .long 100]) (st := []) (pc := 18) dX9_silent_18 (E_X9_in (d := d) e5) rfl (Nat.le_of_ble_eq_true rfl) zc_X9_in rfl zm_X9_120 zs_X9_in rfl (zst_ok rfl (Nat.le_of_ble_eq_true rfl)) rfl ?_
    refine x_if_ne (pc := 21) dX9_silent_21 (t := 27) rfl (fun c6 => ?_) (fun c6 => ?_)
    · rw [if_neg c6] at h
      refine x_ldc2 (pc := 27) dX9_silent_27 zk_X9_375 ?_
      refine x_lstore_n (pc := 30) dX9_silent_30 rfl (by decide) rfl ?_
      refine x_iconst (pc := 31) dX9_silent_31 (v := 0) rfl ?_
      refine x_istore (pc := 32) dX9_silent_32 (by decide) rfl ?_
      obtain ⟨v8, e7, h⟩ := ob h
      refine ex_weak (Ls2 := [.null, .int l1, .int l2, .long 1000000000, .null, .int 0]) ⟨Or.inl rfl, Or.inr rfl, Or.inr rfl, Or.inr rfl, Or.inl rfl, Or.inr rfl, trivial⟩ ?_
      refine LX_X9_silent_34 zN _ _ _ _ _ _ e7 ?_
      refine x_lload_n (pc := 55) dX9_silent_55 rfl rfl ?_
      refine x_l2i (pc := 56) dX9_silent_56 ?_
      obtain rfl := s1 h
      exact y_retI (pc := 57) dX9_silent_57 rfl
    · rw [if_pos c6] at h
      refine x_ldc (pc := 24) dX9_silent_24 zk_X9_133 ?_
      obtain rfl := s1 h
      exact y_retI (pc := 26) dX9_silent_26 rfl
def f_X9_knot (l0 : Nat) (l1 : Int32) (l2 : Int32) (l3 : Int32) (M : zM) : Option (Int32 × zM) := bif Nat.ble 1 l0 then (bif zac M l0 9 58 then ((f_X9_isWord l0 l1 M).bind fun r1 => if r1 = 0 then (some ((-1000000001), M)) else ((f_X9_in (Int32.toInt64 l2) 0 98 M).bind fun r4 => if r4 = 0 then (some ((-1000000002), M)) else ((oI M l0 9 58 48).bind fun v7 => if v7 = 6 then (some ((-1000000004), M)) else ((oR M l0 9 58 49).bind fun v10 => (oI M l0 9 58 48).bind fun v12 => (sI M v10 v12 l1).bind fun M14 => (oR M14 l0 9 58 50).bind fun v16 => (oI M14 l0 9 58 48).bind fun v18 => (sI M14 v16 v18 l2).bind fun M20 => (oR M20 l0 9 58 51).bind fun v22 => (oI M20 l0 9 58 48).bind fun v24 => (sZ M20 v22 v24 l3).bind fun M26 => (oI M26 l0 9 58 48).bind fun v28 => (pI M26 l0 9 58 48 (v28 + 1)).bind fun M30 => (oI M30 l0 9 58 48).bind fun v32 => some (v32, M30))))) else none) else none
theorem E_X9_knot {G : zG} {d : Nat} {l0 : Nat} {l1 : Int32} {l2 : Int32} {l3 : Int32} {M MR : zM} {r : Int32} (h : f_X9_knot l0 l1 l2 l3 M = some (r, MR)) : Ex G (d + 2) yX9_knot cX9_knot 4 (some .int) 0 (zent0 [.ref l0, .int l1, .int l2, .int l3] 4) [] M (some (.int r), MR) := by
  unfold f_X9_knot at h
  obtain ⟨zz0, h⟩ := bt h
  have hl0 := bz zz0
  show Ex _ _ _ _ _ _ 0 [.ref l0, .int l1, .int l2, .int l3] [] _ _
  refine x_aload_n (pc := 0) dX9_knot_0 rfl rfl hl0 ?_
  refine x_iload_n (pc := 1) dX9_knot_1 rfl rfl ?_
  obtain ⟨g34, h⟩ := bt h
  obtain ⟨r1, e2, h⟩ := ob h
  refine x_callV (av := [.int l1]) (st := []) (pc := 2) dX9_knot_2 (E_X9_isWord (d := d) e2) rfl (Nat.le_of_ble_eq_true rfl) zc_X9_isWord rfl zm_X9_235 zi_X9_isWord zs_X9_isWord (zac_ok g34) (by decide) rfl rfl (zst_ok rfl (Nat.le_of_ble_eq_true rfl)) rfl ?_
  refine x_if_ne (pc := 5) dX9_knot_5 (t := 11) rfl (fun c3 => ?_) (fun c3 => ?_)
  · rw [if_neg c3] at h
    refine x_iload_n (pc := 11) dX9_knot_11 rfl rfl ?_
    refine x_i2l (pc := 12) dX9_knot_12 ?_
    refine x_lconst (pc := 13) dX9_knot_13 (v := 0) rfl ?_
    refine x_ldc2 (pc := 14) dX9_knot_14 zk_X9_377 ?_
    obtain ⟨r4, e5, h⟩ := ob h
    refine x_callS (av := [.long (Int32.toInt64 l2), .long 0, .long 98]) (st := []) (pc := 17) dX9_knot_17 (E_X9_in (d := d + 1) e5) rfl (Nat.le_of_ble_eq_true rfl) zc_X9_in rfl zm_X9_120 zs_X9_in rfl (zst_ok rfl (Nat.le_of_ble_eq_true rfl)) rfl ?_
    refine x_if_ne (pc := 20) dX9_knot_20 (t := 26) rfl (fun c6 => ?_) (fun c6 => ?_)
    · rw [if_neg c6] at h
      refine x_aload_n (pc := 26) dX9_knot_26 rfl rfl hl0 ?_
      obtain ⟨v7, e8, h⟩ := ob h
      refine y_getI (pc := 27) dX9_knot_27 zf_X9_222 e8 (by decide) ?_
      refine x_bipush (pc := 30) dX9_knot_30 (v := 6) (by decide) ?_
      refine x_icmp_ne (pc := 32) dX9_knot_32 (t := 38) rfl (fun c9 => ?_) (fun c9 => ?_)
      · rw [if_neg c9] at h
        refine x_aload_n (pc := 38) dX9_knot_38 rfl rfl hl0 ?_
        obtain ⟨v10, e11, h⟩ := ob h
        refine y_getR (pc := 39) dX9_knot_39 zf_X9_93 e11 ?_
        refine x_aload_n (pc := 42) dX9_knot_42 rfl rfl hl0 ?_
        obtain ⟨v12, e13, h⟩ := ob h
        refine y_getI (pc := 43) dX9_knot_43 zf_X9_222 e13 (by decide) ?_
        refine x_iload_n (pc := 46) dX9_knot_46 rfl rfl ?_
        obtain ⟨M14, e15, h⟩ := ob h
        refine y_iast (pc := 47) dX9_knot_47 e15 ?_
        refine x_aload_n (pc := 48) dX9_knot_48 rfl rfl hl0 ?_
        obtain ⟨v16, e17, h⟩ := ob h
        refine y_getR (pc := 49) dX9_knot_49 zf_X9_96 e17 ?_
        refine x_aload_n (pc := 52) dX9_knot_52 rfl rfl hl0 ?_
        obtain ⟨v18, e19, h⟩ := ob h
        refine y_getI (pc := 53) dX9_knot_53 zf_X9_222 e19 (by decide) ?_
        refine x_iload_n (pc := 56) dX9_knot_56 rfl rfl ?_
        obtain ⟨M20, e21, h⟩ := ob h
        refine y_iast (pc := 57) dX9_knot_57 e21 ?_
        refine x_aload_n (pc := 58) dX9_knot_58 rfl rfl hl0 ?_
        obtain ⟨v22, e23, h⟩ := ob h
        refine y_getR (pc := 59) dX9_knot_59 zf_X9_99 e23 ?_
        refine x_aload_n (pc := 62) dX9_knot_62 rfl rfl hl0 ?_
        obtain ⟨v24, e25, h⟩ := ob h
        refine y_getI (pc := 63) dX9_knot_63 zf_X9_222 e25 (by decide) ?_
        refine x_iload_n (pc := 66) dX9_knot_66 rfl rfl ?_
        obtain ⟨M26, e27, h⟩ := ob h
        refine y_zast (pc := 67) dX9_knot_67 e27 ?_
        refine x_aload_n (pc := 68) dX9_knot_68 rfl rfl hl0 ?_
        refine x_dup (pc := 69) dX9_knot_69 rv_cr ?_
        obtain ⟨v28, e29, h⟩ := ob h
        refine y_getI (pc := 70) dX9_knot_70 zf_X9_222 e29 (by decide) ?_
        refine x_iconst (pc := 73) dX9_knot_73 (v := 1) rfl ?_
        refine x_iadd (pc := 74) dX9_knot_74 ?_
        obtain ⟨M30, e31, h⟩ := ob h
        refine y_putI (pc := 75) dX9_knot_75 zf_X9_222 e31 ?_
        refine x_aload_n (pc := 78) dX9_knot_78 rfl rfl hl0 ?_
        obtain ⟨v32, e33, h⟩ := ob h
        refine y_getI (pc := 79) dX9_knot_79 zf_X9_222 e33 (by decide) ?_
        obtain ⟨rfl, rfl⟩ := s2 h
        exact y_retI (pc := 82) dX9_knot_82 rfl
      · rw [if_pos c9] at h
        refine x_ldc (pc := 35) dX9_knot_35 zk_X9_137 ?_
        obtain ⟨rfl, rfl⟩ := s2 h
        exact y_retI (pc := 37) dX9_knot_37 rfl
    · rw [if_pos c6] at h
      refine x_ldc (pc := 23) dX9_knot_23 zk_X9_133 ?_
      obtain ⟨rfl, rfl⟩ := s2 h
      exact y_retI (pc := 25) dX9_knot_25 rfl
  · rw [if_pos c3] at h
    refine x_ldc (pc := 8) dX9_knot_8 zk_X9_238 ?_
    obtain ⟨rfl, rfl⟩ := s2 h
    exact y_retI (pc := 10) dX9_knot_10 rfl
def L_X9_wouldSay_6 : Nat → Nat → Int32 → Int32 → Int32 → Int32 → Int32 → zM → Option (Int32)
  | 0, _, _, _, _, _, _, _ => none
  | n + 1, l0, l1, l2, l3, l4, l5, M => (oI M l0 9 58 8).bind fun v1 => if v1 ≤ l5 then (some l4) else (if l4 = 0 then (bif zac M l0 9 58 then ((f_X9_person l0 l5 M).bind fun r5 => if r5 = l1 then (bif zac M l0 9 58 then ((f_X9_wordOf l0 l5 M).bind fun r8 => if r8 = l2 then (bif zac M l0 9 58 then ((f_X9_dayOf l0 l5 M).bind fun r11 => if r11 = l3 then (L_X9_wouldSay_6 n l0 l1 l2 l3 1 (l5 + 1) M) else (L_X9_wouldSay_6 n l0 l1 l2 l3 0 (l5 + 1) M)) else none) else (L_X9_wouldSay_6 n l0 l1 l2 l3 0 (l5 + 1) M)) else none) else (L_X9_wouldSay_6 n l0 l1 l2 l3 0 (l5 + 1) M)) else none) else (L_X9_wouldSay_6 n l0 l1 l2 l3 1 (l5 + 1) M))
def f_X9_wouldSay (l0 : Nat) (l1 : Int32) (l2 : Int32) (l3 : Int32) (M : zM) : Option (Int32) := bif Nat.ble 1 l0 then ((L_X9_wouldSay_6 zN l0 l1 l2 l3 0 0 M).bind fun v2 => (oR M l0 9 58 13).bind fun v3 => (aZ M v3 l1).bind fun v5 => if v2 = v5 then (some 1) else (some 0)) else none
theorem LX_X9_wouldSay_6 {G : zG} {d : Nat} : ∀ (n : Nat) (l0 : Nat) (l1 : Int32) (l2 : Int32) (l3 : Int32) (l4 : Int32) (l5 : Int32) (M : zM) (hl0 : l0 ≠ 0) (o4 : Int32) {res : Option Value × zM}, L_X9_wouldSay_6 n l0 l1 l2 l3 l4 l5 M = some o4 → Ex G (d + 1) yX9_wouldSay cX9_wouldSay 6 (some .boolean) 63 [.ref l0, .int l1, .null, .null, .int o4, .null] [] M res → Ex G (d + 1) yX9_wouldSay cX9_wouldSay 6 (some .boolean) 6 [.ref l0, .int l1, .int l2, .int l3, .int l4, .int l5] [] M res := by
  intro n
  induction n with
  | zero =>
    intro l0 l1 l2 l3 l4 l5 M hl0 o4 res h K
    simp [L_X9_wouldSay_6] at h
  | succ n ih =>
    intro l0 l1 l2 l3 l4 l5 M hl0 o4 res h K
    simp only [L_X9_wouldSay_6] at h
    refine x_iload (pc := 6) dX9_wouldSay_6 rfl ?_
    refine x_aload_n (pc := 8) dX9_wouldSay_8 rfl rfl hl0 ?_
    obtain ⟨v1, e2, h⟩ := ob h
    refine y_getI (pc := 9) dX9_wouldSay_9 zf_X9_127 e2 (by decide) ?_
    refine x_icmp_ge (pc := 12) dX9_wouldSay_12 (t := 63) rfl (fun c3 => ?_) (fun c3 => ?_)
    · rw [if_pos c3] at h
      obtain rfl := s1 h
      refine ex_weak (Ls2 := [.ref l0, .int l1, .null, .null, .int l4, .null]) ⟨Or.inr rfl, Or.inr rfl, Or.inl rfl, Or.inl rfl, Or.inr rfl, Or.inl rfl, trivial⟩ ?_
      exact K
    · rw [if_neg c3] at h
      refine x_iload (pc := 15) dX9_wouldSay_15 rfl ?_
      refine x_if_ne (pc := 17) dX9_wouldSay_17 (t := 50) rfl (fun c4 => ?_) (fun c4 => ?_)
      · rw [if_neg c4] at h
        refine x_iconst (pc := 50) dX9_wouldSay_50 (v := 1) rfl ?_
        refine x_goto (pc := 51) dX9_wouldSay_51 (t := 55) rfl ?_
        refine x_istore (pc := 55) dX9_wouldSay_55 (by decide) rfl ?_
        refine x_iinc (pc := 57) dX9_wouldSay_57 rfl rfl (by decide) rfl ?_
        refine x_goto (pc := 60) dX9_wouldSay_60 (t := 6) rfl ?_
        refine ex_weak (Ls2 := [.ref l0, .int l1, .int l2, .int l3, .int 1, .int (l5 + 1)]) ⟨Or.inr rfl, Or.inr rfl, Or.inr rfl, Or.inr rfl, Or.inr rfl, Or.inr rfl, trivial⟩ ?_
        exact ih _ _ _ _ _ _ _ hl0 _ h K
      · rw [if_pos c4] at h
        refine x_aload_n (pc := 20) dX9_wouldSay_20 rfl rfl hl0 ?_
        refine x_iload (pc := 21) dX9_wouldSay_21 rfl ?_
        obtain ⟨g16, h⟩ := bt h
        obtain ⟨r5, e6, h⟩ := ob h
        refine x_callV (av := [.int l5]) (st := []) (pc := 23) dX9_wouldSay_23 (E_X9_person (d := d) e6) rfl (Nat.le_of_ble_eq_true rfl) zc_X9_person rfl zm_X9_265 zi_X9_person zs_X9_person (zac_ok g16) (by decide) rfl rfl (zst_ok rfl (Nat.le_of_ble_eq_true rfl)) rfl ?_
        refine x_iload_n (pc := 26) dX9_wouldSay_26 rfl rfl ?_
        refine x_icmp_ne (pc := 27) dX9_wouldSay_27 (t := 54) rfl (fun c7 => ?_) (fun c7 => ?_)
        · rw [if_neg c7] at h
          refine x_iconst (pc := 54) dX9_wouldSay_54 (v := 0) rfl ?_
          refine x_istore (pc := 55) dX9_wouldSay_55 (by decide) rfl ?_
          refine x_iinc (pc := 57) dX9_wouldSay_57 rfl rfl (by decide) rfl ?_
          refine x_goto (pc := 60) dX9_wouldSay_60 (t := 6) rfl ?_
          refine ex_weak (Ls2 := [.ref l0, .int l1, .int l2, .int l3, .int 0, .int (l5 + 1)]) ⟨Or.inr rfl, Or.inr rfl, Or.inr rfl, Or.inr rfl, Or.inr rfl, Or.inr rfl, trivial⟩ ?_
          exact ih _ _ _ _ _ _ _ hl0 _ h K
        · rw [if_pos c7] at h
          refine x_aload_n (pc := 30) dX9_wouldSay_30 rfl rfl hl0 ?_
          refine x_iload (pc := 31) dX9_wouldSay_31 rfl ?_
          obtain ⟨g15, h⟩ := bt h
          obtain ⟨r8, e9, h⟩ := ob h
          refine x_callV (av := [.int l5]) (st := []) (pc := 33) dX9_wouldSay_33 (E_X9_wordOf (d := d) e9) rfl (Nat.le_of_ble_eq_true rfl) zc_X9_wordOf rfl zm_X9_268 zi_X9_wordOf zs_X9_wordOf (zac_ok g15) (by decide) rfl rfl (zst_ok rfl (Nat.le_of_ble_eq_true rfl)) rfl ?_
          refine x_iload_n (pc := 36) dX9_wouldSay_36 rfl rfl ?_
          refine x_icmp_ne (pc := 37) dX9_wouldSay_37 (t := 54) rfl (fun c10 => ?_) (fun c10 => ?_)
          · rw [if_neg c10] at h
            refine x_iconst (pc := 54) dX9_wouldSay_54 (v := 0) rfl ?_
            refine x_istore (pc := 55) dX9_wouldSay_55 (by decide) rfl ?_
            refine x_iinc (pc := 57) dX9_wouldSay_57 rfl rfl (by decide) rfl ?_
            refine x_goto (pc := 60) dX9_wouldSay_60 (t := 6) rfl ?_
            refine ex_weak (Ls2 := [.ref l0, .int l1, .int l2, .int l3, .int 0, .int (l5 + 1)]) ⟨Or.inr rfl, Or.inr rfl, Or.inr rfl, Or.inr rfl, Or.inr rfl, Or.inr rfl, trivial⟩ ?_
            exact ih _ _ _ _ _ _ _ hl0 _ h K
          · rw [if_pos c10] at h
            refine x_aload_n (pc := 40) dX9_wouldSay_40 rfl rfl hl0 ?_
            refine x_iload (pc := 41) dX9_wouldSay_41 rfl ?_
            obtain ⟨g14, h⟩ := bt h
            obtain ⟨r11, e12, h⟩ := ob h
            refine x_callV (av := [.int l5]) (st := []) (pc := 43) dX9_wouldSay_43 (E_X9_dayOf (d := d) e12) rfl (Nat.le_of_ble_eq_true rfl) zc_X9_dayOf rfl zm_X9_228 zi_X9_dayOf zs_X9_dayOf (zac_ok g14) (by decide) rfl rfl (zst_ok rfl (Nat.le_of_ble_eq_true rfl)) rfl ?_
            refine x_iload_n (pc := 46) dX9_wouldSay_46 rfl rfl ?_
            refine x_icmp_ne (pc := 47) dX9_wouldSay_47 (t := 54) rfl (fun c13 => ?_) (fun c13 => ?_)
            · rw [if_neg c13] at h
              refine x_iconst (pc := 54) dX9_wouldSay_54 (v := 0) rfl ?_
              refine x_istore (pc := 55) dX9_wouldSay_55 (by decide) rfl ?_
              refine x_iinc (pc := 57) dX9_wouldSay_57 rfl rfl (by decide) rfl ?_
              refine x_goto (pc := 60) dX9_wouldSay_60 (t := 6) rfl ?_
              refine ex_weak (Ls2 := [.ref l0, .int l1, .int l2, .int l3, .int 0, .int (l5 + 1)]) ⟨Or.inr rfl, Or.inr rfl, Or.inr rfl, Or.inr rfl, Or.inr rfl, Or.inr rfl, trivial⟩ ?_
              exact ih _ _ _ _ _ _ _ hl0 _ h K
            · rw [if_pos c13] at h
              refine x_iconst (pc := 50) dX9_wouldSay_50 (v := 1) rfl ?_
              refine x_goto (pc := 51) dX9_wouldSay_51 (t := 55) rfl ?_
              refine x_istore (pc := 55) dX9_wouldSay_55 (by decide) rfl ?_
              refine x_iinc (pc := 57) dX9_wouldSay_57 rfl rfl (by decide) rfl ?_
              refine x_goto (pc := 60) dX9_wouldSay_60 (t := 6) rfl ?_
              refine ex_weak (Ls2 := [.ref l0, .int l1, .int l2, .int l3, .int 1, .int (l5 + 1)]) ⟨Or.inr rfl, Or.inr rfl, Or.inr rfl, Or.inr rfl, Or.inr rfl, Or.inr rfl, trivial⟩ ?_
              exact ih _ _ _ _ _ _ _ hl0 _ h K
theorem E_X9_wouldSay {G : zG} {d : Nat} {l0 : Nat} {l1 : Int32} {l2 : Int32} {l3 : Int32} {M : zM} {r : Int32} (h : f_X9_wouldSay l0 l1 l2 l3 M = some r) : Ex G (d + 1) yX9_wouldSay cX9_wouldSay 6 (some .boolean) 0 (zent0 [.ref l0, .int l1, .int l2, .int l3] 6) [] M (some (.int r), M) := by
  unfold f_X9_wouldSay at h
  obtain ⟨zz0, h⟩ := bt h
  have hl0 := bz zz0
  show Ex _ _ _ _ _ _ 0 [.ref l0, .int l1, .int l2, .int l3, .null, .null] [] _ _
  refine x_iconst (pc := 0) dX9_wouldSay_0 (v := 0) rfl ?_
  refine x_istore (pc := 1) dX9_wouldSay_1 (by decide) rfl ?_
  refine x_iconst (pc := 3) dX9_wouldSay_3 (v := 0) rfl ?_
  refine x_istore (pc := 4) dX9_wouldSay_4 (by decide) rfl ?_
  obtain ⟨v2, e1, h⟩ := ob h
  refine ex_weak (Ls2 := [.ref l0, .int l1, .int l2, .int l3, .int 0, .int 0]) ⟨Or.inr rfl, Or.inr rfl, Or.inr rfl, Or.inr rfl, Or.inr rfl, Or.inr rfl, trivial⟩ ?_
  refine LX_X9_wouldSay_6 zN _ _ _ _ _ _ _ hl0 _ e1 ?_
  refine x_iload (pc := 63) dX9_wouldSay_63 rfl ?_
  refine x_aload_n (pc := 65) dX9_wouldSay_65 rfl rfl hl0 ?_
  obtain ⟨v3, e4, h⟩ := ob h
  refine y_getR (pc := 66) dX9_wouldSay_66 zf_X9_32 e4 ?_
  refine x_iload_n (pc := 69) dX9_wouldSay_69 rfl rfl ?_
  obtain ⟨v5, e6, h⟩ := ob h
  refine y_zald (pc := 70) dX9_wouldSay_70 e6 ?_
  refine x_icmp_ne (pc := 71) dX9_wouldSay_71 (t := 78) rfl (fun c7 => ?_) (fun c7 => ?_)
  · rw [if_neg c7] at h
    refine x_iconst (pc := 78) dX9_wouldSay_78 (v := 0) rfl ?_
    obtain rfl := s1 h
    exact x_ret (pc := 79) dX9_wouldSay_79 (ty := .boolean) rfl rfl
  · rw [if_pos c7] at h
    refine x_iconst (pc := 74) dX9_wouldSay_74 (v := 1) rfl ?_
    refine x_goto (pc := 75) dX9_wouldSay_75 (t := 79) rfl ?_
    obtain rfl := s1 h
    exact x_ret (pc := 79) dX9_wouldSay_79 (ty := .boolean) rfl rfl
def L_X9_whoSaid_17 : Nat → Nat → Int32 → Int32 → Int32 → Int32 → zM → Option (Int32)
  | 0, _, _, _, _, _, _ => none
  | n + 1, l0, l1, l2, l3, l4, M => (oI M l0 9 58 48).bind fun v4 => if v4 ≤ l4 then (some l3) else (if l3 = 0 then (L_X9_whoSaid_17 n l0 l1 l2 0 (l4 + 1) M) else ((oR M l0 9 58 49).bind fun v8 => (aI M v8 l4).bind fun v10 => (oR M l0 9 58 50).bind fun v12 => (aI M v12 l4).bind fun v14 => bif zac M l0 9 58 then ((f_X9_wouldSay l0 l2 v10 v14 M).bind fun r16 => (oR M l0 9 58 51).bind fun v18 => (aZ M v18 l4).bind fun v20 => if r16 = v20 then (L_X9_whoSaid_17 n l0 l1 l2 1 (l4 + 1) M) else (L_X9_whoSaid_17 n l0 l1 l2 0 (l4 + 1) M)) else none))
def L_X9_whoSaid_4 : Nat → Nat → Int32 → Int32 → zM → Option (Int32)
  | 0, _, _, _, _ => none
  | n + 1, l0, l1, l2, M => (oI M l0 9 58 7).bind fun v1 => if v1 ≤ l2 then (some l1) else ((L_X9_whoSaid_17 zN l0 l1 l2 1 0 M).bind fun v5 => if v5 = 0 then (L_X9_whoSaid_4 n l0 (l1 ||| 0) (l2 + 1) M) else (L_X9_whoSaid_4 n l0 (l1 ||| (1 <<< (l2 &&& 31))) (l2 + 1) M))
def f_X9_whoSaid (l0 : Nat) (M : zM) : Option (Int32) := bif Nat.ble 1 l0 then ((L_X9_whoSaid_4 zN l0 0 0 M).bind fun v2 => some v2) else none
theorem LX_X9_whoSaid_17 {G : zG} {d : Nat} : ∀ (n : Nat) (l0 : Nat) (l1 : Int32) (l2 : Int32) (l3 : Int32) (l4 : Int32) (M : zM) (hl0 : l0 ≠ 0) (o3 : Int32) {res : Option Value × zM}, L_X9_whoSaid_17 n l0 l1 l2 l3 l4 M = some o3 → Ex G (d + 2) yX9_whoSaid cX9_whoSaid 5 (some .int) 71 [.ref l0, .int l1, .int l2, .int o3, .null] [] M res → Ex G (d + 2) yX9_whoSaid cX9_whoSaid 5 (some .int) 17 [.ref l0, .int l1, .int l2, .int l3, .int l4] [] M res := by
  intro n
  induction n with
  | zero =>
    intro l0 l1 l2 l3 l4 M hl0 o3 res h K
    simp [L_X9_whoSaid_17] at h
  | succ n ih =>
    intro l0 l1 l2 l3 l4 M hl0 o3 res h K
    simp only [L_X9_whoSaid_17] at h
    refine x_iload (pc := 17) dX9_whoSaid_17 rfl ?_
    refine x_aload_n (pc := 19) dX9_whoSaid_19 rfl rfl hl0 ?_
    obtain ⟨v4, e5, h⟩ := ob h
    refine y_getI (pc := 20) dX9_whoSaid_20 zf_X9_222 e5 (by decide) ?_
    refine x_icmp_ge (pc := 23) dX9_whoSaid_23 (t := 71) rfl (fun c6 => ?_) (fun c6 => ?_)
    · rw [if_pos c6] at h
      obtain rfl := s1 h
      refine ex_weak (Ls2 := [.ref l0, .int l1, .int l2, .int l3, .null]) ⟨Or.inr rfl, Or.inr rfl, Or.inr rfl, Or.inr rfl, Or.inl rfl, trivial⟩ ?_
      exact K
    · rw [if_neg c6] at h
      refine x_iload_n (pc := 26) dX9_whoSaid_26 rfl rfl ?_
      refine x_if_eq (pc := 27) dX9_whoSaid_27 (t := 63) rfl (fun c7 => ?_) (fun c7 => ?_)
      · rw [if_pos c7] at h
        refine x_iconst (pc := 63) dX9_whoSaid_63 (v := 0) rfl ?_
        refine x_istore_n (pc := 64) dX9_whoSaid_64 rfl (by decide) rfl ?_
        refine x_iinc (pc := 65) dX9_whoSaid_65 rfl rfl (by decide) rfl ?_
        refine x_goto (pc := 68) dX9_whoSaid_68 (t := 17) rfl ?_
        refine ex_weak (Ls2 := [.ref l0, .int l1, .int l2, .int 0, .int (l4 + 1)]) ⟨Or.inr rfl, Or.inr rfl, Or.inr rfl, Or.inr rfl, Or.inr rfl, trivial⟩ ?_
        exact ih _ _ _ _ _ _ hl0 _ h K
      · rw [if_neg c7] at h
        refine x_aload_n (pc := 30) dX9_whoSaid_30 rfl rfl hl0 ?_
        refine x_iload_n (pc := 31) dX9_whoSaid_31 rfl rfl ?_
        refine x_aload_n (pc := 32) dX9_whoSaid_32 rfl rfl hl0 ?_
        obtain ⟨v8, e9, h⟩ := ob h
        refine y_getR (pc := 33) dX9_whoSaid_33 zf_X9_93 e9 ?_
        refine x_iload (pc := 36) dX9_whoSaid_36 rfl ?_
        obtain ⟨v10, e11, h⟩ := ob h
        refine y_iald (pc := 38) dX9_whoSaid_38 e11 ?_
        refine x_aload_n (pc := 39) dX9_whoSaid_39 rfl rfl hl0 ?_
        obtain ⟨v12, e13, h⟩ := ob h
        refine y_getR (pc := 40) dX9_whoSaid_40 zf_X9_96 e13 ?_
        refine x_iload (pc := 43) dX9_whoSaid_43 rfl ?_
        obtain ⟨v14, e15, h⟩ := ob h
        refine y_iald (pc := 45) dX9_whoSaid_45 e15 ?_
        obtain ⟨g23, h⟩ := bt h
        obtain ⟨r16, e17, h⟩ := ob h
        refine x_callV (av := [.int l2, .int v10, .int v14]) (st := []) (pc := 46) dX9_whoSaid_46 (E_X9_wouldSay (d := d) e17) rfl (Nat.le_of_ble_eq_true rfl) zc_X9_wouldSay rfl zm_X9_379 zi_X9_wouldSay zs_X9_wouldSay (zac_ok g23) (by decide) rfl rfl (zst_ok rfl (Nat.le_of_ble_eq_true rfl)) rfl ?_
        refine x_aload_n (pc := 49) dX9_whoSaid_49 rfl rfl hl0 ?_
        obtain ⟨v18, e19, h⟩ := ob h
        refine y_getR (pc := 50) dX9_whoSaid_50 zf_X9_99 e19 ?_
        refine x_iload (pc := 53) dX9_whoSaid_53 rfl ?_
        obtain ⟨v20, e21, h⟩ := ob h
        refine y_zald (pc := 55) dX9_whoSaid_55 e21 ?_
        refine x_icmp_ne (pc := 56) dX9_whoSaid_56 (t := 63) rfl (fun c22 => ?_) (fun c22 => ?_)
        · rw [if_neg c22] at h
          refine x_iconst (pc := 63) dX9_whoSaid_63 (v := 0) rfl ?_
          refine x_istore_n (pc := 64) dX9_whoSaid_64 rfl (by decide) rfl ?_
          refine x_iinc (pc := 65) dX9_whoSaid_65 rfl rfl (by decide) rfl ?_
          refine x_goto (pc := 68) dX9_whoSaid_68 (t := 17) rfl ?_
          refine ex_weak (Ls2 := [.ref l0, .int l1, .int l2, .int 0, .int (l4 + 1)]) ⟨Or.inr rfl, Or.inr rfl, Or.inr rfl, Or.inr rfl, Or.inr rfl, trivial⟩ ?_
          exact ih _ _ _ _ _ _ hl0 _ h K
        · rw [if_pos c22] at h
          refine x_iconst (pc := 59) dX9_whoSaid_59 (v := 1) rfl ?_
          refine x_goto (pc := 60) dX9_whoSaid_60 (t := 64) rfl ?_
          refine x_istore_n (pc := 64) dX9_whoSaid_64 rfl (by decide) rfl ?_
          refine x_iinc (pc := 65) dX9_whoSaid_65 rfl rfl (by decide) rfl ?_
          refine x_goto (pc := 68) dX9_whoSaid_68 (t := 17) rfl ?_
          refine ex_weak (Ls2 := [.ref l0, .int l1, .int l2, .int 1, .int (l4 + 1)]) ⟨Or.inr rfl, Or.inr rfl, Or.inr rfl, Or.inr rfl, Or.inr rfl, trivial⟩ ?_
          exact ih _ _ _ _ _ _ hl0 _ h K
theorem LX_X9_whoSaid_4 {G : zG} {d : Nat} : ∀ (n : Nat) (l0 : Nat) (l1 : Int32) (l2 : Int32) (M : zM) (hl0 : l0 ≠ 0) (o1 : Int32) {res : Option Value × zM}, L_X9_whoSaid_4 n l0 l1 l2 M = some o1 → Ex G (d + 2) yX9_whoSaid cX9_whoSaid 5 (some .int) 91 [.null, .int o1, .null, .null, .null] [] M res → Ex G (d + 2) yX9_whoSaid cX9_whoSaid 5 (some .int) 4 [.ref l0, .int l1, .int l2, .null, .null] [] M res := by
  intro n
  induction n with
  | zero =>
    intro l0 l1 l2 M hl0 o1 res h K
    simp [L_X9_whoSaid_4] at h
  | succ n ih =>
    intro l0 l1 l2 M hl0 o1 res h K
    simp only [L_X9_whoSaid_4] at h
    refine x_iload_n (pc := 4) dX9_whoSaid_4 rfl rfl ?_
    refine x_aload_n (pc := 5) dX9_whoSaid_5 rfl rfl hl0 ?_
    obtain ⟨v1, e2, h⟩ := ob h
    refine y_getI (pc := 6) dX9_whoSaid_6 zf_X9_124 e2 (by decide) ?_
    refine x_icmp_ge (pc := 9) dX9_whoSaid_9 (t := 91) rfl (fun c3 => ?_) (fun c3 => ?_)
    · rw [if_pos c3] at h
      obtain rfl := s1 h
      refine ex_weak (Ls2 := [.null, .int l1, .null, .null, .null]) ⟨Or.inl rfl, Or.inr rfl, Or.inl rfl, Or.inl rfl, Or.inl rfl, trivial⟩ ?_
      exact K
    · rw [if_neg c3] at h
      refine x_iconst (pc := 12) dX9_whoSaid_12 (v := 1) rfl ?_
      refine x_istore_n (pc := 13) dX9_whoSaid_13 rfl (by decide) rfl ?_
      refine x_iconst (pc := 14) dX9_whoSaid_14 (v := 0) rfl ?_
      refine x_istore (pc := 15) dX9_whoSaid_15 (by decide) rfl ?_
      obtain ⟨v5, e4, h⟩ := ob h
      refine ex_weak (Ls2 := [.ref l0, .int l1, .int l2, .int 1, .int 0]) ⟨Or.inr rfl, Or.inr rfl, Or.inr rfl, Or.inr rfl, Or.inr rfl, trivial⟩ ?_
      refine LX_X9_whoSaid_17 zN _ _ _ _ _ _ hl0 _ e4 ?_
      refine x_iload_n (pc := 71) dX9_whoSaid_71 rfl rfl ?_
      refine x_iload_n (pc := 72) dX9_whoSaid_72 rfl rfl ?_
      refine x_if_eq (pc := 73) dX9_whoSaid_73 (t := 82) rfl (fun c6 => ?_) (fun c6 => ?_)
      · rw [if_pos c6] at h
        refine x_iconst (pc := 82) dX9_whoSaid_82 (v := 0) rfl ?_
        refine x_ior (pc := 83) dX9_whoSaid_83 ?_
        refine x_istore_n (pc := 84) dX9_whoSaid_84 rfl (by decide) rfl ?_
        refine x_iinc (pc := 85) dX9_whoSaid_85 rfl rfl (by decide) rfl ?_
        refine x_goto (pc := 88) dX9_whoSaid_88 (t := 4) rfl ?_
        refine ex_weak (Ls2 := [.ref l0, .int (l1 ||| 0), .int (l2 + 1), .null, .null]) ⟨Or.inr rfl, Or.inr rfl, Or.inr rfl, Or.inl rfl, Or.inl rfl, trivial⟩ ?_
        exact ih _ _ _ _ hl0 _ h K
      · rw [if_neg c6] at h
        refine x_iconst (pc := 76) dX9_whoSaid_76 (v := 1) rfl ?_
        refine x_iload_n (pc := 77) dX9_whoSaid_77 rfl rfl ?_
        refine x_ishl (pc := 78) dX9_whoSaid_78 ?_
        refine x_goto (pc := 79) dX9_whoSaid_79 (t := 83) rfl ?_
        refine x_ior (pc := 83) dX9_whoSaid_83 ?_
        refine x_istore_n (pc := 84) dX9_whoSaid_84 rfl (by decide) rfl ?_
        refine x_iinc (pc := 85) dX9_whoSaid_85 rfl rfl (by decide) rfl ?_
        refine x_goto (pc := 88) dX9_whoSaid_88 (t := 4) rfl ?_
        refine ex_weak (Ls2 := [.ref l0, .int (l1 ||| (1 <<< (l2 &&& 31))), .int (l2 + 1), .null, .null]) ⟨Or.inr rfl, Or.inr rfl, Or.inr rfl, Or.inl rfl, Or.inl rfl, trivial⟩ ?_
        exact ih _ _ _ _ hl0 _ h K
theorem E_X9_whoSaid {G : zG} {d : Nat} {l0 : Nat} {M : zM} {r : Int32} (h : f_X9_whoSaid l0 M = some r) : Ex G (d + 2) yX9_whoSaid cX9_whoSaid 5 (some .int) 0 (zent0 [.ref l0] 5) [] M (some (.int r), M) := by
  unfold f_X9_whoSaid at h
  obtain ⟨zz0, h⟩ := bt h
  have hl0 := bz zz0
  show Ex _ _ _ _ _ _ 0 [.ref l0, .null, .null, .null, .null] [] _ _
  refine x_iconst (pc := 0) dX9_whoSaid_0 (v := 0) rfl ?_
  refine x_istore_n (pc := 1) dX9_whoSaid_1 rfl (by decide) rfl ?_
  refine x_iconst (pc := 2) dX9_whoSaid_2 (v := 0) rfl ?_
  refine x_istore_n (pc := 3) dX9_whoSaid_3 rfl (by decide) rfl ?_
  obtain ⟨v2, e1, h⟩ := ob h
  refine ex_weak (Ls2 := [.ref l0, .int 0, .int 0, .null, .null]) ⟨Or.inr rfl, Or.inr rfl, Or.inr rfl, Or.inl rfl, Or.inl rfl, trivial⟩ ?_
  refine LX_X9_whoSaid_4 zN _ _ _ _ hl0 _ e1 ?_
  refine x_iload_n (pc := 91) dX9_whoSaid_91 rfl rfl ?_
  obtain rfl := s1 h
  exact y_retI (pc := 92) dX9_whoSaid_92 rfl
def f_X9_who (l0 : Nat) (M : zM) : Option (Int32) := bif Nat.ble 1 l0 then (bif zac M l0 9 58 then ((f_X9_whoSaid l0 M).bind fun r1 => some r1) else none) else none
theorem E_X9_who {G : zG} {d : Nat} {l0 : Nat} {M : zM} {r : Int32} (h : f_X9_who l0 M = some r) : Ex G (d + 3) yX9_who cX9_who 1 (some .int) 0 (zent0 [.ref l0] 1) [] M (some (.int r), M) := by
  unfold f_X9_who at h
  obtain ⟨zz0, h⟩ := bt h
  have hl0 := bz zz0
  show Ex _ _ _ _ _ _ 0 [.ref l0] [] _ _
  refine x_aload_n (pc := 0) dX9_who_0 rfl rfl hl0 ?_
  obtain ⟨g3, h⟩ := bt h
  obtain ⟨r1, e2, h⟩ := ob h
  refine x_callV (av := []) (st := []) (pc := 1) dX9_who_1 (E_X9_whoSaid (d := d) e2) rfl (Nat.le_of_ble_eq_true rfl) zc_X9_whoSaid rfl zm_X9_382 zi_X9_whoSaid zs_X9_whoSaid (zac_ok g3) (by decide) rfl rfl (zst_ok rfl (Nat.le_of_ble_eq_true rfl)) rfl ?_
  obtain rfl := s1 h
  exact y_retI (pc := 4) dX9_who_4 rfl
def L_X9_ask_42 : Nat → Nat → Int32 → Int32 → Int32 → Int32 → Int32 → Int32 → Int32 → zM → Option (Int32)
  | 0, _, _, _, _, _, _, _, _, _ => none
  | n + 1, l0, l1, l2, l3, l4, l5, l6, l7, M => (oI M l0 9 58 7).bind fun v11 => if v11 ≤ l7 then (some l6) else ((f_X9_has l1 l7 M).bind fun r14 => if r14 = 0 then (L_X9_ask_42 n l0 l1 l2 l3 l4 l5 (l6 + 0) (l7 + 1) M) else (bif zac M l0 9 58 then ((f_X9_wouldSay l0 l7 l4 l5 M).bind fun r17 => if r17 = 0 then (L_X9_ask_42 n l0 l1 l2 l3 l4 l5 (l6 + 0) (l7 + 1) M) else (L_X9_ask_42 n l0 l1 l2 l3 l4 l5 (l6 + 1) (l7 + 1) M)) else none))
def L_X9_ask_27 : Nat → Nat → Int32 → Int32 → Int32 → Int32 → Int32 → zM → Option (Int32 × Int32)
  | 0, _, _, _, _, _, _, _ => none
  | n + 1, l0, l1, l2, l3, l4, l5, M => (oI M l0 9 58 5).bind fun v8 => if v8 ≤ l5 then (some (l2, l3)) else ((L_X9_ask_42 zN l0 l1 l2 l3 l4 l5 0 0 M).bind fun v12 => (f_X9_bits l1 M).bind fun r13 => if v12 ≤ r13 - v12 then (if l3 ≤ r13 - v12 then (L_X9_ask_27 n l0 l1 l2 l3 l4 (l5 + 1) M) else (L_X9_ask_27 n l0 l1 ((100 * l4) + l5) (r13 - v12) l4 (l5 + 1) M)) else (if l3 ≤ v12 then (L_X9_ask_27 n l0 l1 l2 l3 l4 (l5 + 1) M) else (L_X9_ask_27 n l0 l1 ((100 * l4) + l5) v12 l4 (l5 + 1) M)))
def L_X9_ask_15 : Nat → Nat → Int32 → Int32 → Int32 → Int32 → zM → Option (Int32)
  | 0, _, _, _, _, _, _ => none
  | n + 1, l0, l1, l2, l3, l4, M => (oI M l0 9 58 6).bind fun v5 => if v5 ≤ l4 then (some l2) else (b2 (L_X9_ask_27 zN l0 l1 l2 l3 l4 0 M) fun v9 v10 => L_X9_ask_15 n l0 l1 v9 v10 (l4 + 1) M)
def f_X9_ask (l0 : Nat) (M : zM) : Option (Int32) := bif Nat.ble 1 l0 then (bif zac M l0 9 58 then ((f_X9_whoSaid l0 M).bind fun r1 => (f_X9_bits r1 M).bind fun r3 => (L_X9_ask_15 zN l0 r1 (-1) r3 0 M).bind fun v6 => some v6) else none) else none
set_option maxRecDepth 100000 in
set_option maxHeartbeats 2000000 in
theorem LX_X9_ask_42 {G : zG} {d : Nat} : ∀ (n : Nat) (l0 : Nat) (l1 : Int32) (l2 : Int32) (l3 : Int32) (l4 : Int32) (l5 : Int32) (l6 : Int32) (l7 : Int32) (M : zM) (hl0 : l0 ≠ 0) (o6 : Int32) {res : Option Value × zM}, L_X9_ask_42 n l0 l1 l2 l3 l4 l5 l6 l7 M = some o6 → Ex G (d + 3) yX9_ask cX9_ask 9 (some .int) 89 [.ref l0, .int l1, .int l2, .int l3, .int l4, .int l5, .int o6, .null, .null] [] M res → Ex G (d + 3) yX9_ask cX9_ask 9 (some .int) 42 [.ref l0, .int l1, .int l2, .int l3, .int l4, .int l5, .int l6, .int l7, .null] [] M res := by
  intro n
  induction n with
  | zero =>
    intro l0 l1 l2 l3 l4 l5 l6 l7 M hl0 o6 res h K
    simp [L_X9_ask_42] at h
  | succ n ih =>
    intro l0 l1 l2 l3 l4 l5 l6 l7 M hl0 o6 res h K
    simp only [L_X9_ask_42] at h
    refine x_iload (pc := 42) dX9_ask_42 rfl ?_
    refine x_aload_n (pc := 44) dX9_ask_44 rfl rfl hl0 ?_
    obtain ⟨v11, e12, h⟩ := ob h
    refine y_getI (pc := 45) dX9_ask_45 zf_X9_124 e12 (by decide) ?_
    refine x_icmp_ge (pc := 48) dX9_ask_48 (t := 89) rfl (fun c13 => ?_) (fun c13 => ?_)
    · rw [if_pos c13] at h
      obtain rfl := s1 h
      refine ex_weak (Ls2 := [.ref l0, .int l1, .int l2, .int l3, .int l4, .int l5, .int l6, .null, .null]) ⟨Or.inr rfl, Or.inr rfl, Or.inr rfl, Or.inr rfl, Or.inr rfl, Or.inr rfl, Or.inr rfl, Or.inl rfl, Or.inl rfl, trivial⟩ ?_
      exact K
    · rw [if_neg c13] at h
      refine x_iload (pc := 51) dX9_ask_51 rfl ?_
      refine x_iload_n (pc := 53) dX9_ask_53 rfl rfl ?_
      refine x_iload (pc := 54) dX9_ask_54 rfl ?_
      obtain ⟨r14, e15, h⟩ := ob h
      refine x_callS (av := [.int l1, .int l7]) (st := [.int l6]) (pc := 56) dX9_ask_56 (E_X9_has (d := d + 2) e15) rfl (Nat.le_of_ble_eq_true rfl) zc_X9_has rfl zm_X9_178 zs_X9_has rfl (zst_ok rfl (Nat.le_of_ble_eq_true rfl)) rfl ?_
      refine x_if_eq (pc := 59) dX9_ask_59 (t := 79) rfl (fun c16 => ?_) (fun c16 => ?_)
      · rw [if_pos c16] at h
        refine x_iconst (pc := 79) dX9_ask_79 (v := 0) rfl ?_
        refine x_iadd (pc := 80) dX9_ask_80 ?_
        refine x_istore (pc := 81) dX9_ask_81 (by decide) rfl ?_
        refine x_iinc (pc := 83) dX9_ask_83 rfl rfl (by decide) rfl ?_
        refine x_goto (pc := 86) dX9_ask_86 (t := 42) rfl ?_
        refine ex_weak (Ls2 := [.ref l0, .int l1, .int l2, .int l3, .int l4, .int l5, .int (l6 + 0), .int (l7 + 1), .null]) ⟨Or.inr rfl, Or.inr rfl, Or.inr rfl, Or.inr rfl, Or.inr rfl, Or.inr rfl, Or.inr rfl, Or.inr rfl, Or.inl rfl, trivial⟩ ?_
        exact ih _ _ _ _ _ _ _ _ _ hl0 _ h K
      · rw [if_neg c16] at h
        refine x_aload_n (pc := 62) dX9_ask_62 rfl rfl hl0 ?_
        refine x_iload (pc := 63) dX9_ask_63 rfl ?_
        refine x_iload (pc := 65) dX9_ask_65 rfl ?_
        refine x_iload (pc := 67) dX9_ask_67 rfl ?_
        obtain ⟨g20, h⟩ := bt h
        obtain ⟨r17, e18, h⟩ := ob h
        refine x_callV (av := [.int l7, .int l4, .int l5]) (st := [.int l6]) (pc := 69) dX9_ask_69 (E_X9_wouldSay (d := d + 1) e18) rfl (Nat.le_of_ble_eq_true rfl) zc_X9_wouldSay rfl zm_X9_379 zi_X9_wouldSay zs_X9_wouldSay (zac_ok g20) (by decide) rfl rfl (zst_ok rfl (Nat.le_of_ble_eq_true rfl)) rfl ?_
        refine x_if_eq (pc := 72) dX9_ask_72 (t := 79) rfl (fun c19 => ?_) (fun c19 => ?_)
        · rw [if_pos c19] at h
          refine x_iconst (pc := 79) dX9_ask_79 (v := 0) rfl ?_
          refine x_iadd (pc := 80) dX9_ask_80 ?_
          refine x_istore (pc := 81) dX9_ask_81 (by decide) rfl ?_
          refine x_iinc (pc := 83) dX9_ask_83 rfl rfl (by decide) rfl ?_
          refine x_goto (pc := 86) dX9_ask_86 (t := 42) rfl ?_
          refine ex_weak (Ls2 := [.ref l0, .int l1, .int l2, .int l3, .int l4, .int l5, .int (l6 + 0), .int (l7 + 1), .null]) ⟨Or.inr rfl, Or.inr rfl, Or.inr rfl, Or.inr rfl, Or.inr rfl, Or.inr rfl, Or.inr rfl, Or.inr rfl, Or.inl rfl, trivial⟩ ?_
          exact ih _ _ _ _ _ _ _ _ _ hl0 _ h K
        · rw [if_neg c19] at h
          refine x_iconst (pc := 75) dX9_ask_75 (v := 1) rfl ?_
          refine x_goto (pc := 76) dX9_ask_76 (t := 80) rfl ?_
          refine x_iadd (pc := 80) dX9_ask_80 ?_
          refine x_istore (pc := 81) dX9_ask_81 (by decide) rfl ?_
          refine x_iinc (pc := 83) dX9_ask_83 rfl rfl (by decide) rfl ?_
          refine x_goto (pc := 86) dX9_ask_86 (t := 42) rfl ?_
          refine ex_weak (Ls2 := [.ref l0, .int l1, .int l2, .int l3, .int l4, .int l5, .int (l6 + 1), .int (l7 + 1), .null]) ⟨Or.inr rfl, Or.inr rfl, Or.inr rfl, Or.inr rfl, Or.inr rfl, Or.inr rfl, Or.inr rfl, Or.inr rfl, Or.inl rfl, trivial⟩ ?_
          exact ih _ _ _ _ _ _ _ _ _ hl0 _ h K
set_option maxRecDepth 100000 in
set_option maxHeartbeats 2000000 in
theorem LX_X9_ask_27 {G : zG} {d : Nat} : ∀ (n : Nat) (l0 : Nat) (l1 : Int32) (l2 : Int32) (l3 : Int32) (l4 : Int32) (l5 : Int32) (M : zM) (hl0 : l0 ≠ 0) (o2 : Int32) (o3 : Int32) {res : Option Value × zM}, L_X9_ask_27 n l0 l1 l2 l3 l4 l5 M = some (o2, o3) → Ex G (d + 3) yX9_ask cX9_ask 9 (some .int) 152 [.ref l0, .int l1, .int o2, .int o3, .int l4, .null, .null, .null, .null] [] M res → Ex G (d + 3) yX9_ask cX9_ask 9 (some .int) 27 [.ref l0, .int l1, .int l2, .int l3, .int l4, .int l5, .null, .null, .null] [] M res := by
  intro n
  induction n with
  | zero =>
    intro l0 l1 l2 l3 l4 l5 M hl0 o2 o3 res h K
    simp [L_X9_ask_27] at h
  | succ n ih =>
    intro l0 l1 l2 l3 l4 l5 M hl0 o2 o3 res h K
    simp only [L_X9_ask_27] at h
    refine x_iload (pc := 27) dX9_ask_27 rfl ?_
    refine x_aload_n (pc := 29) dX9_ask_29 rfl rfl hl0 ?_
    obtain ⟨v8, e9, h⟩ := ob h
    refine y_getI (pc := 30) dX9_ask_30 zf_X9_216 e9 (by decide) ?_
    refine x_icmp_ge (pc := 33) dX9_ask_33 (t := 152) rfl (fun c10 => ?_) (fun c10 => ?_)
    · rw [if_pos c10] at h
      obtain ⟨rfl, rfl⟩ := s2 h
      refine ex_weak (Ls2 := [.ref l0, .int l1, .int l2, .int l3, .int l4, .null, .null, .null, .null]) ⟨Or.inr rfl, Or.inr rfl, Or.inr rfl, Or.inr rfl, Or.inr rfl, Or.inl rfl, Or.inl rfl, Or.inl rfl, Or.inl rfl, trivial⟩ ?_
      exact K
    · rw [if_neg c10] at h
      refine x_iconst (pc := 36) dX9_ask_36 (v := 0) rfl ?_
      refine x_istore (pc := 37) dX9_ask_37 (by decide) rfl ?_
      refine x_iconst (pc := 39) dX9_ask_39 (v := 0) rfl ?_
      refine x_istore (pc := 40) dX9_ask_40 (by decide) rfl ?_
      obtain ⟨v12, e11, h⟩ := ob h
      refine ex_weak (Ls2 := [.ref l0, .int l1, .int l2, .int l3, .int l4, .int l5, .int 0, .int 0, .null]) ⟨Or.inr rfl, Or.inr rfl, Or.inr rfl, Or.inr rfl, Or.inr rfl, Or.inr rfl, Or.inr rfl, Or.inr rfl, Or.inl rfl, trivial⟩ ?_
      refine LX_X9_ask_42 zN _ _ _ _ _ _ _ _ _ hl0 _ e11 ?_
      refine x_iload_n (pc := 89) dX9_ask_89 rfl rfl ?_
      obtain ⟨r13, e14, h⟩ := ob h
      refine x_callS (av := [.int l1]) (st := []) (pc := 90) dX9_ask_90 (E_X9_bits (d := d + 2) e14) rfl (Nat.le_of_ble_eq_true rfl) zc_X9_bits rfl zm_X9_328 zs_X9_bits rfl (zst_ok rfl (Nat.le_of_ble_eq_true rfl)) rfl ?_
      refine x_iload (pc := 93) dX9_ask_93 rfl ?_
      refine x_isub (pc := 95) dX9_ask_95 ?_
      refine x_istore (pc := 96) dX9_ask_96 (by decide) rfl ?_
      refine x_iload (pc := 98) dX9_ask_98 rfl ?_
      refine x_iload (pc := 100) dX9_ask_100 rfl ?_
      refine x_icmp_le (pc := 102) dX9_ask_102 (t := 110) rfl (fun c15 => ?_) (fun c15 => ?_)
      · rw [if_pos c15] at h
        refine x_iload (pc := 110) dX9_ask_110 rfl ?_
        refine x_istore (pc := 112) dX9_ask_112 (by decide) rfl ?_
        refine x_iload (pc := 114) dX9_ask_114 rfl ?_
        refine x_iload_n (pc := 116) dX9_ask_116 rfl rfl ?_
        refine x_icmp_ge (pc := 117) dX9_ask_117 (t := 131) rfl (fun c16 => ?_) (fun c16 => ?_)
        · rw [if_pos c16] at h
          refine x_iload_n (pc := 131) dX9_ask_131 rfl rfl ?_
          refine x_istore_n (pc := 132) dX9_ask_132 rfl (by decide) rfl ?_
          refine x_iload (pc := 133) dX9_ask_133 rfl ?_
          refine x_iload_n (pc := 135) dX9_ask_135 rfl rfl ?_
          refine x_icmp_ge (pc := 136) dX9_ask_136 (t := 144) rfl (fun c17 => ?_) (fun c17 => ?_)
          · refine x_iload_n (pc := 144) dX9_ask_144 rfl rfl ?_
            refine x_istore_n (pc := 145) dX9_ask_145 rfl (by decide) rfl ?_
            refine x_iinc (pc := 146) dX9_ask_146 rfl rfl (by decide) rfl ?_
            refine x_goto (pc := 149) dX9_ask_149 (t := 27) rfl ?_
            refine ex_weak (Ls2 := [.ref l0, .int l1, .int l2, .int l3, .int l4, .int (l5 + 1), .null, .null, .null]) ⟨Or.inr rfl, Or.inr rfl, Or.inr rfl, Or.inr rfl, Or.inr rfl, Or.inr rfl, Or.inl rfl, Or.inl rfl, Or.inl rfl, trivial⟩ ?_
            exact ih _ _ _ _ _ _ _ hl0 _ _ h K
          · exact absurd c16 c17
        · rw [if_neg c16] at h
          refine x_bipush (pc := 120) dX9_ask_120 (v := 100) (by decide) ?_
          refine x_iload (pc := 122) dX9_ask_122 rfl ?_
          refine x_imul (pc := 124) dX9_ask_124 ?_
          refine x_iload (pc := 125) dX9_ask_125 rfl ?_
          refine x_iadd (pc := 127) dX9_ask_127 ?_
          refine x_goto (pc := 128) dX9_ask_128 (t := 132) rfl ?_
          refine x_istore_n (pc := 132) dX9_ask_132 rfl (by decide) rfl ?_
          refine x_iload (pc := 133) dX9_ask_133 rfl ?_
          refine x_iload_n (pc := 135) dX9_ask_135 rfl rfl ?_
          refine x_icmp_ge (pc := 136) dX9_ask_136 (t := 144) rfl (fun c18 => ?_) (fun c18 => ?_)
          · exact absurd c18 c16
          · refine x_iload (pc := 139) dX9_ask_139 rfl ?_
            refine x_goto (pc := 141) dX9_ask_141 (t := 145) rfl ?_
            refine x_istore_n (pc := 145) dX9_ask_145 rfl (by decide) rfl ?_
            refine x_iinc (pc := 146) dX9_ask_146 rfl rfl (by decide) rfl ?_
            refine x_goto (pc := 149) dX9_ask_149 (t := 27) rfl ?_
            refine ex_weak (Ls2 := [.ref l0, .int l1, .int ((100 * l4) + l5), .int (r13 - v12), .int l4, .int (l5 + 1), .null, .null, .null]) ⟨Or.inr rfl, Or.inr rfl, Or.inr rfl, Or.inr rfl, Or.inr rfl, Or.inr rfl, Or.inl rfl, Or.inl rfl, Or.inl rfl, trivial⟩ ?_
            exact ih _ _ _ _ _ _ _ hl0 _ _ h K
      · rw [if_neg c15] at h
        refine x_iload (pc := 105) dX9_ask_105 rfl ?_
        refine x_goto (pc := 107) dX9_ask_107 (t := 112) rfl ?_
        refine x_istore (pc := 112) dX9_ask_112 (by decide) rfl ?_
        refine x_iload (pc := 114) dX9_ask_114 rfl ?_
        refine x_iload_n (pc := 116) dX9_ask_116 rfl rfl ?_
        refine x_icmp_ge (pc := 117) dX9_ask_117 (t := 131) rfl (fun c19 => ?_) (fun c19 => ?_)
        · rw [if_pos c19] at h
          refine x_iload_n (pc := 131) dX9_ask_131 rfl rfl ?_
          refine x_istore_n (pc := 132) dX9_ask_132 rfl (by decide) rfl ?_
          refine x_iload (pc := 133) dX9_ask_133 rfl ?_
          refine x_iload_n (pc := 135) dX9_ask_135 rfl rfl ?_
          refine x_icmp_ge (pc := 136) dX9_ask_136 (t := 144) rfl (fun c20 => ?_) (fun c20 => ?_)
          · refine x_iload_n (pc := 144) dX9_ask_144 rfl rfl ?_
            refine x_istore_n (pc := 145) dX9_ask_145 rfl (by decide) rfl ?_
            refine x_iinc (pc := 146) dX9_ask_146 rfl rfl (by decide) rfl ?_
            refine x_goto (pc := 149) dX9_ask_149 (t := 27) rfl ?_
            refine ex_weak (Ls2 := [.ref l0, .int l1, .int l2, .int l3, .int l4, .int (l5 + 1), .null, .null, .null]) ⟨Or.inr rfl, Or.inr rfl, Or.inr rfl, Or.inr rfl, Or.inr rfl, Or.inr rfl, Or.inl rfl, Or.inl rfl, Or.inl rfl, trivial⟩ ?_
            exact ih _ _ _ _ _ _ _ hl0 _ _ h K
          · exact absurd c19 c20
        · rw [if_neg c19] at h
          refine x_bipush (pc := 120) dX9_ask_120 (v := 100) (by decide) ?_
          refine x_iload (pc := 122) dX9_ask_122 rfl ?_
          refine x_imul (pc := 124) dX9_ask_124 ?_
          refine x_iload (pc := 125) dX9_ask_125 rfl ?_
          refine x_iadd (pc := 127) dX9_ask_127 ?_
          refine x_goto (pc := 128) dX9_ask_128 (t := 132) rfl ?_
          refine x_istore_n (pc := 132) dX9_ask_132 rfl (by decide) rfl ?_
          refine x_iload (pc := 133) dX9_ask_133 rfl ?_
          refine x_iload_n (pc := 135) dX9_ask_135 rfl rfl ?_
          refine x_icmp_ge (pc := 136) dX9_ask_136 (t := 144) rfl (fun c21 => ?_) (fun c21 => ?_)
          · exact absurd c21 c19
          · refine x_iload (pc := 139) dX9_ask_139 rfl ?_
            refine x_goto (pc := 141) dX9_ask_141 (t := 145) rfl ?_
            refine x_istore_n (pc := 145) dX9_ask_145 rfl (by decide) rfl ?_
            refine x_iinc (pc := 146) dX9_ask_146 rfl rfl (by decide) rfl ?_
            refine x_goto (pc := 149) dX9_ask_149 (t := 27) rfl ?_
            refine ex_weak (Ls2 := [.ref l0, .int l1, .int ((100 * l4) + l5), .int v12, .int l4, .int (l5 + 1), .null, .null, .null]) ⟨Or.inr rfl, Or.inr rfl, Or.inr rfl, Or.inr rfl, Or.inr rfl, Or.inr rfl, Or.inl rfl, Or.inl rfl, Or.inl rfl, trivial⟩ ?_
            exact ih _ _ _ _ _ _ _ hl0 _ _ h K
set_option maxRecDepth 100000 in
set_option maxHeartbeats 2000000 in
theorem LX_X9_ask_15 {G : zG} {d : Nat} : ∀ (n : Nat) (l0 : Nat) (l1 : Int32) (l2 : Int32) (l3 : Int32) (l4 : Int32) (M : zM) (hl0 : l0 ≠ 0) (o2 : Int32) {res : Option Value × zM}, L_X9_ask_15 n l0 l1 l2 l3 l4 M = some o2 → Ex G (d + 3) yX9_ask cX9_ask 9 (some .int) 158 [.null, .null, .int o2, .null, .null, .null, .null, .null, .null] [] M res → Ex G (d + 3) yX9_ask cX9_ask 9 (some .int) 15 [.ref l0, .int l1, .int l2, .int l3, .int l4, .null, .null, .null, .null] [] M res := by
  intro n
  induction n with
  | zero =>
    intro l0 l1 l2 l3 l4 M hl0 o2 res h K
    simp [L_X9_ask_15] at h
  | succ n ih =>
    intro l0 l1 l2 l3 l4 M hl0 o2 res h K
    simp only [L_X9_ask_15] at h
    refine x_iload (pc := 15) dX9_ask_15 rfl ?_
    refine x_aload_n (pc := 17) dX9_ask_17 rfl rfl hl0 ?_
    obtain ⟨v5, e6, h⟩ := ob h
    refine y_getI (pc := 18) dX9_ask_18 zf_X9_117 e6 (by decide) ?_
    refine x_icmp_ge (pc := 21) dX9_ask_21 (t := 158) rfl (fun c7 => ?_) (fun c7 => ?_)
    · rw [if_pos c7] at h
      obtain rfl := s1 h
      refine ex_weak (Ls2 := [.null, .null, .int l2, .null, .null, .null, .null, .null, .null]) ⟨Or.inl rfl, Or.inl rfl, Or.inr rfl, Or.inl rfl, Or.inl rfl, Or.inl rfl, Or.inl rfl, Or.inl rfl, Or.inl rfl, trivial⟩ ?_
      exact K
    · rw [if_neg c7] at h
      refine x_iconst (pc := 24) dX9_ask_24 (v := 0) rfl ?_
      refine x_istore (pc := 25) dX9_ask_25 (by decide) rfl ?_
      obtain ⟨v9, v10, e8, h⟩ := ob2 h
      refine ex_weak (Ls2 := [.ref l0, .int l1, .int l2, .int l3, .int l4, .int 0, .null, .null, .null]) ⟨Or.inr rfl, Or.inr rfl, Or.inr rfl, Or.inr rfl, Or.inr rfl, Or.inr rfl, Or.inl rfl, Or.inl rfl, Or.inl rfl, trivial⟩ ?_
      refine LX_X9_ask_27 zN _ _ _ _ _ _ _ hl0 _ _ e8 ?_
      refine x_iinc (pc := 152) dX9_ask_152 rfl rfl (by decide) rfl ?_
      refine x_goto (pc := 155) dX9_ask_155 (t := 15) rfl ?_
      refine ex_weak (Ls2 := [.ref l0, .int l1, .int v9, .int v10, .int (l4 + 1), .null, .null, .null, .null]) ⟨Or.inr rfl, Or.inr rfl, Or.inr rfl, Or.inr rfl, Or.inr rfl, Or.inl rfl, Or.inl rfl, Or.inl rfl, Or.inl rfl, trivial⟩ ?_
      exact ih _ _ _ _ _ _ hl0 _ h K
set_option maxRecDepth 100000 in
set_option maxHeartbeats 2000000 in
theorem E_X9_ask {G : zG} {d : Nat} {l0 : Nat} {M : zM} {r : Int32} (h : f_X9_ask l0 M = some r) : Ex G (d + 3) yX9_ask cX9_ask 9 (some .int) 0 (zent0 [.ref l0] 9) [] M (some (.int r), M) := by
  unfold f_X9_ask at h
  obtain ⟨zz0, h⟩ := bt h
  have hl0 := bz zz0
  show Ex _ _ _ _ _ _ 0 [.ref l0, .null, .null, .null, .null, .null, .null, .null, .null] [] _ _
  refine x_aload_n (pc := 0) dX9_ask_0 rfl rfl hl0 ?_
  obtain ⟨g7, h⟩ := bt h
  obtain ⟨r1, e2, h⟩ := ob h
  refine x_callV (av := []) (st := []) (pc := 1) dX9_ask_1 (E_X9_whoSaid (d := d) e2) rfl (Nat.le_of_ble_eq_true rfl) zc_X9_whoSaid rfl zm_X9_382 zi_X9_whoSaid zs_X9_whoSaid (zac_ok g7) (by decide) rfl rfl (zst_ok rfl (Nat.le_of_ble_eq_true rfl)) rfl ?_
  refine x_istore_n (pc := 4) dX9_ask_4 rfl (by decide) rfl ?_
  refine x_iconst (pc := 5) dX9_ask_5 (v := (-1)) rfl ?_
  refine x_istore_n (pc := 6) dX9_ask_6 rfl (by decide) rfl ?_
  refine x_iload_n (pc := 7) dX9_ask_7 rfl rfl ?_
  obtain ⟨r3, e4, h⟩ := ob h
  refine x_callS (av := [.int r1]) (st := []) (pc := 8) dX9_ask_8 (E_X9_bits (d := d + 2) e4) rfl (Nat.le_of_ble_eq_true rfl) zc_X9_bits rfl zm_X9_328 zs_X9_bits rfl (zst_ok rfl (Nat.le_of_ble_eq_true rfl)) rfl ?_
  refine x_istore_n (pc := 11) dX9_ask_11 rfl (by decide) rfl ?_
  refine x_iconst (pc := 12) dX9_ask_12 (v := 0) rfl ?_
  refine x_istore (pc := 13) dX9_ask_13 (by decide) rfl ?_
  obtain ⟨v6, e5, h⟩ := ob h
  refine ex_weak (Ls2 := [.ref l0, .int r1, .int (-1), .int r3, .int 0, .null, .null, .null, .null]) ⟨Or.inr rfl, Or.inr rfl, Or.inr rfl, Or.inr rfl, Or.inr rfl, Or.inl rfl, Or.inl rfl, Or.inl rfl, Or.inl rfl, trivial⟩ ?_
  refine LX_X9_ask_15 zN _ _ _ _ _ _ hl0 _ e5 ?_
  refine x_iload_n (pc := 158) dX9_ask_158 rfl rfl ?_
  obtain rfl := s1 h
  exact y_retI (pc := 159) dX9_ask_159 rfl
def f_X9_write (l0 : Nat) (l1 : Int32) (l2 : Int32) (M : zM) : Option (Int32 × zM) := bif Nat.ble 1 l0 then (bif zac M l0 9 58 then ((f_X9_isWord l0 l1 M).bind fun r1 => if r1 = 0 then (some ((-1000000001), M)) else ((f_X9_in (Int32.toInt64 l2) 0 99 M).bind fun r4 => if r4 = 0 then (some ((-1000000002), M)) else ((oI M l0 9 58 52).bind fun v7 => if v7 = 15 then (some ((-1000000004), M)) else ((oR M l0 9 58 53).bind fun v10 => (oI M l0 9 58 52).bind fun v12 => (sI M v10 v12 l1).bind fun M14 => (oR M14 l0 9 58 54).bind fun v16 => (oI M14 l0 9 58 52).bind fun v18 => (sI M14 v16 v18 l2).bind fun M20 => (oI M20 l0 9 58 52).bind fun v22 => (pI M20 l0 9 58 52 (v22 + 1)).bind fun M24 => (oI M24 l0 9 58 52).bind fun v26 => some (v26, M24))))) else none) else none
theorem E_X9_write {G : zG} {d : Nat} {l0 : Nat} {l1 : Int32} {l2 : Int32} {M MR : zM} {r : Int32} (h : f_X9_write l0 l1 l2 M = some (r, MR)) : Ex G (d + 2) yX9_write cX9_write 3 (some .int) 0 (zent0 [.ref l0, .int l1, .int l2] 3) [] M (some (.int r), MR) := by
  unfold f_X9_write at h
  obtain ⟨zz0, h⟩ := bt h
  have hl0 := bz zz0
  show Ex _ _ _ _ _ _ 0 [.ref l0, .int l1, .int l2] [] _ _
  refine x_aload_n (pc := 0) dX9_write_0 rfl rfl hl0 ?_
  refine x_iload_n (pc := 1) dX9_write_1 rfl rfl ?_
  obtain ⟨g28, h⟩ := bt h
  obtain ⟨r1, e2, h⟩ := ob h
  refine x_callV (av := [.int l1]) (st := []) (pc := 2) dX9_write_2 (E_X9_isWord (d := d) e2) rfl (Nat.le_of_ble_eq_true rfl) zc_X9_isWord rfl zm_X9_235 zi_X9_isWord zs_X9_isWord (zac_ok g28) (by decide) rfl rfl (zst_ok rfl (Nat.le_of_ble_eq_true rfl)) rfl ?_
  refine x_if_ne (pc := 5) dX9_write_5 (t := 11) rfl (fun c3 => ?_) (fun c3 => ?_)
  · rw [if_neg c3] at h
    refine x_iload_n (pc := 11) dX9_write_11 rfl rfl ?_
    refine x_i2l (pc := 12) dX9_write_12 ?_
    refine x_lconst (pc := 13) dX9_write_13 (v := 0) rfl ?_
    refine x_ldc2 (pc := 14) dX9_write_14 zk_X9_294 ?_
    obtain ⟨r4, e5, h⟩ := ob h
    refine x_callS (av := [.long (Int32.toInt64 l2), .long 0, .long 99]) (st := []) (pc := 17) dX9_write_17 (E_X9_in (d := d + 1) e5) rfl (Nat.le_of_ble_eq_true rfl) zc_X9_in rfl zm_X9_120 zs_X9_in rfl (zst_ok rfl (Nat.le_of_ble_eq_true rfl)) rfl ?_
    refine x_if_ne (pc := 20) dX9_write_20 (t := 26) rfl (fun c6 => ?_) (fun c6 => ?_)
    · rw [if_neg c6] at h
      refine x_aload_n (pc := 26) dX9_write_26 rfl rfl hl0 ?_
      obtain ⟨v7, e8, h⟩ := ob h
      refine y_getI (pc := 27) dX9_write_27 zf_X9_225 e8 (by decide) ?_
      refine x_bipush (pc := 30) dX9_write_30 (v := 15) (by decide) ?_
      refine x_icmp_ne (pc := 32) dX9_write_32 (t := 38) rfl (fun c9 => ?_) (fun c9 => ?_)
      · rw [if_neg c9] at h
        refine x_aload_n (pc := 38) dX9_write_38 rfl rfl hl0 ?_
        obtain ⟨v10, e11, h⟩ := ob h
        refine y_getR (pc := 39) dX9_write_39 zf_X9_102 e11 ?_
        refine x_aload_n (pc := 42) dX9_write_42 rfl rfl hl0 ?_
        obtain ⟨v12, e13, h⟩ := ob h
        refine y_getI (pc := 43) dX9_write_43 zf_X9_225 e13 (by decide) ?_
        refine x_iload_n (pc := 46) dX9_write_46 rfl rfl ?_
        obtain ⟨M14, e15, h⟩ := ob h
        refine y_iast (pc := 47) dX9_write_47 e15 ?_
        refine x_aload_n (pc := 48) dX9_write_48 rfl rfl hl0 ?_
        obtain ⟨v16, e17, h⟩ := ob h
        refine y_getR (pc := 49) dX9_write_49 zf_X9_105 e17 ?_
        refine x_aload_n (pc := 52) dX9_write_52 rfl rfl hl0 ?_
        obtain ⟨v18, e19, h⟩ := ob h
        refine y_getI (pc := 53) dX9_write_53 zf_X9_225 e19 (by decide) ?_
        refine x_iload_n (pc := 56) dX9_write_56 rfl rfl ?_
        obtain ⟨M20, e21, h⟩ := ob h
        refine y_iast (pc := 57) dX9_write_57 e21 ?_
        refine x_aload_n (pc := 58) dX9_write_58 rfl rfl hl0 ?_
        refine x_dup (pc := 59) dX9_write_59 rv_cr ?_
        obtain ⟨v22, e23, h⟩ := ob h
        refine y_getI (pc := 60) dX9_write_60 zf_X9_225 e23 (by decide) ?_
        refine x_iconst (pc := 63) dX9_write_63 (v := 1) rfl ?_
        refine x_iadd (pc := 64) dX9_write_64 ?_
        obtain ⟨M24, e25, h⟩ := ob h
        refine y_putI (pc := 65) dX9_write_65 zf_X9_225 e25 ?_
        refine x_aload_n (pc := 68) dX9_write_68 rfl rfl hl0 ?_
        obtain ⟨v26, e27, h⟩ := ob h
        refine y_getI (pc := 69) dX9_write_69 zf_X9_225 e27 (by decide) ?_
        obtain ⟨rfl, rfl⟩ := s2 h
        exact y_retI (pc := 72) dX9_write_72 rfl
      · rw [if_pos c9] at h
        refine x_ldc (pc := 35) dX9_write_35 zk_X9_137 ?_
        obtain ⟨rfl, rfl⟩ := s2 h
        exact y_retI (pc := 37) dX9_write_37 rfl
    · rw [if_pos c6] at h
      refine x_ldc (pc := 23) dX9_write_23 zk_X9_133 ?_
      obtain ⟨rfl, rfl⟩ := s2 h
      exact y_retI (pc := 25) dX9_write_25 rfl
  · rw [if_pos c3] at h
    refine x_ldc (pc := 8) dX9_write_8 zk_X9_238 ?_
    obtain ⟨rfl, rfl⟩ := s2 h
    exact y_retI (pc := 10) dX9_write_10 rfl
def f_X9_tear (l0 : Nat) (M : zM) : Option (Int32 × zM) := bif Nat.ble 1 l0 then ((oI M l0 9 58 48).bind fun v1 => (oI M l0 9 58 52).bind fun v3 => (pI M l0 9 58 48 0).bind fun M5 => (pI M5 l0 9 58 52 0).bind fun M7 => some (v1 + v3, M7)) else none
theorem E_X9_tear {G : zG} {d : Nat} {l0 : Nat} {M MR : zM} {r : Int32} (h : f_X9_tear l0 M = some (r, MR)) : Ex G d yX9_tear cX9_tear 2 (some .int) 0 (zent0 [.ref l0] 2) [] M (some (.int r), MR) := by
  unfold f_X9_tear at h
  obtain ⟨zz0, h⟩ := bt h
  have hl0 := bz zz0
  show Ex _ _ _ _ _ _ 0 [.ref l0, .null] [] _ _
  refine x_aload_n (pc := 0) dX9_tear_0 rfl rfl hl0 ?_
  obtain ⟨v1, e2, h⟩ := ob h
  refine y_getI (pc := 1) dX9_tear_1 zf_X9_222 e2 (by decide) ?_
  refine x_aload_n (pc := 4) dX9_tear_4 rfl rfl hl0 ?_
  obtain ⟨v3, e4, h⟩ := ob h
  refine y_getI (pc := 5) dX9_tear_5 zf_X9_225 e4 (by decide) ?_
  refine x_iadd (pc := 8) dX9_tear_8 ?_
  refine x_istore_n (pc := 9) dX9_tear_9 rfl (by decide) rfl ?_
  refine x_aload_n (pc := 10) dX9_tear_10 rfl rfl hl0 ?_
  refine x_iconst (pc := 11) dX9_tear_11 (v := 0) rfl ?_
  obtain ⟨M5, e6, h⟩ := ob h
  refine y_putI (pc := 12) dX9_tear_12 zf_X9_222 e6 ?_
  refine x_aload_n (pc := 15) dX9_tear_15 rfl rfl hl0 ?_
  refine x_iconst (pc := 16) dX9_tear_16 (v := 0) rfl ?_
  obtain ⟨M7, e8, h⟩ := ob h
  refine y_putI (pc := 17) dX9_tear_17 zf_X9_225 e8 ?_
  refine x_iload_n (pc := 20) dX9_tear_20 rfl rfl ?_
  obtain ⟨rfl, rfl⟩ := s2 h
  exact y_retI (pc := 21) dX9_tear_21 rfl
def L_X9_judge_2 : Nat → Nat → Int32 → zM → Option ((Int32) ⊕ (Unit))
  | 0, _, _, _ => none
  | n + 1, l0, l1, M => (oI M l0 9 58 52).bind fun v1 => if v1 ≤ l1 then (some (.inr ())) else ((oR M l0 9 58 0).bind fun v4 => (oR M l0 9 58 53).bind fun v6 => (aI M v6 l1).bind fun v8 => (aI M v4 (13 + v8)).bind fun v10 => (oR M l0 9 58 54).bind fun v12 => (aI M v12 l1).bind fun v14 => if v10 = v14 then (L_X9_judge_2 n l0 (l1 + 1) M) else (some (.inl l1)))
def f_X9_judge (l0 : Nat) (M : zM) : Option (Int32) := bif Nat.ble 1 l0 then (bs (L_X9_judge_2 zN l0 0 M) some (fun _ => some (-1))) else none
theorem LX_X9_judge_2 {G : zG} {d : Nat} : ∀ (n : Nat) (l0 : Nat) (l1 : Int32) (M : zM) (hl0 : l0 ≠ 0) (e : (Int32) ⊕ (Unit)) {res : Option Value × zM}, L_X9_judge_2 n l0 l1 M = some e → (∀ r, e = .inl r → res = (some (.int r), M)) → (e = .inr () → Ex G d yX9_judge cX9_judge 2 (some .int) 41 [.null, .null] [] M res) → Ex G d yX9_judge cX9_judge 2 (some .int) 2 [.ref l0, .int l1] [] M res := by
  intro n
  induction n with
  | zero =>
    intro l0 l1 M hl0 e res h K1 K2
    simp [L_X9_judge_2] at h
  | succ n ih =>
    intro l0 l1 M hl0 e res h K1 K2
    simp only [L_X9_judge_2] at h
    refine x_iload_n (pc := 2) dX9_judge_2 rfl rfl ?_
    refine x_aload_n (pc := 3) dX9_judge_3 rfl rfl hl0 ?_
    obtain ⟨v1, e2, h⟩ := ob h
    refine y_getI (pc := 4) dX9_judge_4 zf_X9_225 e2 (by decide) ?_
    refine x_icmp_ge (pc := 7) dX9_judge_7 (t := 41) rfl (fun c3 => ?_) (fun c3 => ?_)
    · rw [if_pos c3] at h
      obtain rfl := s1 h
      refine ex_weak (Ls2 := [.null, .null]) ⟨Or.inl rfl, Or.inl rfl, trivial⟩ ?_
      exact K2  rfl
    · rw [if_neg c3] at h
      refine x_aload_n (pc := 10) dX9_judge_10 rfl rfl hl0 ?_
      obtain ⟨v4, e5, h⟩ := ob h
      refine y_getR (pc := 11) dX9_judge_11 zf_X9_7 e5 ?_
      refine x_bipush (pc := 14) dX9_judge_14 (v := 13) (by decide) ?_
      refine x_aload_n (pc := 16) dX9_judge_16 rfl rfl hl0 ?_
      obtain ⟨v6, e7, h⟩ := ob h
      refine y_getR (pc := 17) dX9_judge_17 zf_X9_102 e7 ?_
      refine x_iload_n (pc := 20) dX9_judge_20 rfl rfl ?_
      obtain ⟨v8, e9, h⟩ := ob h
      refine y_iald (pc := 21) dX9_judge_21 e9 ?_
      refine x_iadd (pc := 22) dX9_judge_22 ?_
      obtain ⟨v10, e11, h⟩ := ob h
      refine y_iald (pc := 23) dX9_judge_23 e11 ?_
      refine x_aload_n (pc := 24) dX9_judge_24 rfl rfl hl0 ?_
      obtain ⟨v12, e13, h⟩ := ob h
      refine y_getR (pc := 25) dX9_judge_25 zf_X9_105 e13 ?_
      refine x_iload_n (pc := 28) dX9_judge_28 rfl rfl ?_
      obtain ⟨v14, e15, h⟩ := ob h
      refine y_iald (pc := 29) dX9_judge_29 e15 ?_
      refine x_icmp_eq (pc := 30) dX9_judge_30 (t := 35) rfl (fun c16 => ?_) (fun c16 => ?_)
      · rw [if_pos c16] at h
        refine x_iinc (pc := 35) dX9_judge_35 rfl rfl (by decide) rfl ?_
        refine x_goto (pc := 38) dX9_judge_38 (t := 2) rfl ?_
        refine ex_weak (Ls2 := [.ref l0, .int (l1 + 1)]) ⟨Or.inr rfl, Or.inr rfl, trivial⟩ ?_
        exact ih _ _ _ hl0 _ h K1 K2
      · rw [if_neg c16] at h
        refine x_iload_n (pc := 33) dX9_judge_33 rfl rfl ?_
        obtain rfl := s1 h
        rw [K1 _ rfl]
        exact y_retI (pc := 34) dX9_judge_34 rfl
theorem E_X9_judge {G : zG} {d : Nat} {l0 : Nat} {M : zM} {r : Int32} (h : f_X9_judge l0 M = some r) : Ex G d yX9_judge cX9_judge 2 (some .int) 0 (zent0 [.ref l0] 2) [] M (some (.int r), M) := by
  unfold f_X9_judge at h
  obtain ⟨zz0, h⟩ := bt h
  have hl0 := bz zz0
  show Ex _ _ _ _ _ _ 0 [.ref l0, .null] [] _ _
  refine x_iconst (pc := 0) dX9_judge_0 (v := 0) rfl ?_
  refine x_istore_n (pc := 1) dX9_judge_1 rfl (by decide) rfl ?_
  refine ex_weak (Ls2 := [.ref l0, .int 0]) ⟨Or.inr rfl, Or.inr rfl, trivial⟩ ?_
  rcases obs h with ⟨r2, e1, h⟩ | ⟨_, e1, h⟩
  · cases h
    exact LX_X9_judge_2 zN _ _ _ hl0 _ e1 (fun r q => by cases q; rfl) (by intros; contradiction)
  · refine LX_X9_judge_2 zN _ _ _ hl0 _ e1 (fun r q => by cases q) ?_
    intro q
    cases q
    refine x_iconst (pc := 41) dX9_judge_41 (v := (-1)) rfl ?_
    obtain rfl := s1 h
    exact y_retI (pc := 42) dX9_judge_42 rfl
def f_X9_seed (l0 : Nat) (l1 : Int32) (M : zM) : Option (Int32 × zM) := bif Nat.ble 1 l0 then (if 0 ≤ l1 then ((oI M l0 9 58 4).bind fun v2 => (pI M l0 9 58 4 l1).bind fun M4 => some (v2, M4)) else (some ((-1000000002), M))) else none
theorem E_X9_seed {G : zG} {d : Nat} {l0 : Nat} {l1 : Int32} {M MR : zM} {r : Int32} (h : f_X9_seed l0 l1 M = some (r, MR)) : Ex G d yX9_seed cX9_seed 3 (some .int) 0 (zent0 [.ref l0, .int l1] 3) [] M (some (.int r), MR) := by
  unfold f_X9_seed at h
  obtain ⟨zz0, h⟩ := bt h
  have hl0 := bz zz0
  show Ex _ _ _ _ _ _ 0 [.ref l0, .int l1, .null] [] _ _
  refine x_iload_n (pc := 0) dX9_seed_0 rfl rfl ?_
  refine x_if_ge (pc := 1) dX9_seed_1 (t := 7) rfl (fun c1 => ?_) (fun c1 => ?_)
  · rw [if_pos c1] at h
    refine x_aload_n (pc := 7) dX9_seed_7 rfl rfl hl0 ?_
    obtain ⟨v2, e3, h⟩ := ob h
    refine y_getI (pc := 8) dX9_seed_8 zf_X9_296 e3 (by decide) ?_
    refine x_istore_n (pc := 11) dX9_seed_11 rfl (by decide) rfl ?_
    refine x_aload_n (pc := 12) dX9_seed_12 rfl rfl hl0 ?_
    refine x_iload_n (pc := 13) dX9_seed_13 rfl rfl ?_
    obtain ⟨M4, e5, h⟩ := ob h
    refine y_putI (pc := 14) dX9_seed_14 zf_X9_296 e5 ?_
    refine x_iload_n (pc := 17) dX9_seed_17 rfl rfl ?_
    obtain ⟨rfl, rfl⟩ := s2 h
    exact y_retI (pc := 18) dX9_seed_18 rfl
  · rw [if_neg c1] at h
    refine x_ldc (pc := 4) dX9_seed_4 zk_X9_133 ?_
    obtain ⟨rfl, rfl⟩ := s2 h
    exact y_retI (pc := 6) dX9_seed_6 rfl
def L_X9_keep_15 : Nat → Nat → Int32 → Int32 → zM → Option (zM)
  | 0, _, _, _, _ => none
  | n + 1, l0, l1, l2, M => if 69 ≤ l2 then (some M) else ((oR M l0 9 58 56).bind fun v5 => (oR M l0 9 58 0).bind fun v7 => (aI M v7 l2).bind fun v9 => (sI M v5 ((69 * l1) + l2) v9).bind fun M11 => L_X9_keep_15 n l0 l1 (l2 + 1) M11)
def f_X9_keep (l0 : Nat) (l1 : Int32) (M : zM) : Option (Int32 × zM) := bif Nat.ble 1 l0 then ((f_X9_in (Int32.toInt64 l1) 0 1 M).bind fun r1 => if r1 = 0 then (some ((-1000000001), M)) else ((L_X9_keep_15 zN l0 l1 0 M).bind fun M5 => (oR M5 l0 9 58 57).bind fun v6 => (oI M5 l0 9 58 4).bind fun v8 => (sI M5 v6 l1 v8).bind fun M10 => (oR M10 l0 9 58 55).bind fun v12 => (sZ M10 v12 l1 1).bind fun M14 => (pI M14 l0 9 58 3 0).bind fun M16 => some (1, M16))) else none
theorem LX_X9_keep_15 {G : zG} {d : Nat} : ∀ (n : Nat) (l0 : Nat) (l1 : Int32) (l2 : Int32) (M : zM) (hl0 : l0 ≠ 0) (MX : zM) {res : Option Value × zM}, L_X9_keep_15 n l0 l1 l2 M = some MX → Ex G (d + 1) yX9_keep cX9_keep 3 (some .int) 44 [.ref l0, .int l1, .null] [] MX res → Ex G (d + 1) yX9_keep cX9_keep 3 (some .int) 15 [.ref l0, .int l1, .int l2] [] M res := by
  intro n
  induction n with
  | zero =>
    intro l0 l1 l2 M hl0 MX res h K
    simp [L_X9_keep_15] at h
  | succ n ih =>
    intro l0 l1 l2 M hl0 MX res h K
    simp only [L_X9_keep_15] at h
    refine x_iload_n (pc := 15) dX9_keep_15 rfl rfl ?_
    refine x_bipush (pc := 16) dX9_keep_16 (v := 69) (by decide) ?_
    refine x_icmp_ge (pc := 18) dX9_keep_18 (t := 44) rfl (fun c4 => ?_) (fun c4 => ?_)
    · rw [if_pos c4] at h
      obtain rfl := s1 h
      refine ex_weak (Ls2 := [.ref l0, .int l1, .null]) ⟨Or.inr rfl, Or.inr rfl, Or.inl rfl, trivial⟩ ?_
      exact K
    · rw [if_neg c4] at h
      refine x_aload_n (pc := 21) dX9_keep_21 rfl rfl hl0 ?_
      obtain ⟨v5, e6, h⟩ := ob h
      refine y_getR (pc := 22) dX9_keep_22 zf_X9_111 e6 ?_
      refine x_bipush (pc := 25) dX9_keep_25 (v := 69) (by decide) ?_
      refine x_iload_n (pc := 27) dX9_keep_27 rfl rfl ?_
      refine x_imul (pc := 28) dX9_keep_28 ?_
      refine x_iload_n (pc := 29) dX9_keep_29 rfl rfl ?_
      refine x_iadd (pc := 30) dX9_keep_30 ?_
      refine x_aload_n (pc := 31) dX9_keep_31 rfl rfl hl0 ?_
      obtain ⟨v7, e8, h⟩ := ob h
      refine y_getR (pc := 32) dX9_keep_32 zf_X9_7 e8 ?_
      refine x_iload_n (pc := 35) dX9_keep_35 rfl rfl ?_
      obtain ⟨v9, e10, h⟩ := ob h
      refine y_iald (pc := 36) dX9_keep_36 e10 ?_
      obtain ⟨M11, e12, h⟩ := ob h
      refine y_iast (pc := 37) dX9_keep_37 e12 ?_
      refine x_iinc (pc := 38) dX9_keep_38 rfl rfl (by decide) rfl ?_
      refine x_goto (pc := 41) dX9_keep_41 (t := 15) rfl ?_
      refine ex_weak (Ls2 := [.ref l0, .int l1, .int (l2 + 1)]) ⟨Or.inr rfl, Or.inr rfl, Or.inr rfl, trivial⟩ ?_
      exact ih _ _ _ _ hl0  _ h K
theorem E_X9_keep {G : zG} {d : Nat} {l0 : Nat} {l1 : Int32} {M MR : zM} {r : Int32} (h : f_X9_keep l0 l1 M = some (r, MR)) : Ex G (d + 1) yX9_keep cX9_keep 3 (some .int) 0 (zent0 [.ref l0, .int l1] 3) [] M (some (.int r), MR) := by
  unfold f_X9_keep at h
  obtain ⟨zz0, h⟩ := bt h
  have hl0 := bz zz0
  show Ex _ _ _ _ _ _ 0 [.ref l0, .int l1, .null] [] _ _
  refine x_iload_n (pc := 0) dX9_keep_0 rfl rfl ?_
  refine x_i2l (pc := 1) dX9_keep_1 ?_
  refine x_lconst (pc := 2) dX9_keep_2 (v := 0) rfl ?_
  refine x_lconst (pc := 3) dX9_keep_3 (v := 1) rfl ?_
  obtain ⟨r1, e2, h⟩ := ob h
  refine x_callS (av := [.long (Int32.toInt64 l1), .long 0, .long 1]) (st := []) (pc := 4) dX9_keep_4 (E_X9_in (d := d) e2) rfl (Nat.le_of_ble_eq_true rfl) zc_X9_in rfl zm_X9_120 zs_X9_in rfl (zst_ok rfl (Nat.le_of_ble_eq_true rfl)) rfl ?_
  refine x_if_ne (pc := 7) dX9_keep_7 (t := 13) rfl (fun c3 => ?_) (fun c3 => ?_)
  · rw [if_neg c3] at h
    refine x_iconst (pc := 13) dX9_keep_13 (v := 0) rfl ?_
    refine x_istore_n (pc := 14) dX9_keep_14 rfl (by decide) rfl ?_
    obtain ⟨M5, e4, h⟩ := ob h
    refine ex_weak (Ls2 := [.ref l0, .int l1, .int 0]) ⟨Or.inr rfl, Or.inr rfl, Or.inr rfl, trivial⟩ ?_
    refine LX_X9_keep_15 zN _ _ _ _ hl0 _ e4 ?_
    refine x_aload_n (pc := 44) dX9_keep_44 rfl rfl hl0 ?_
    obtain ⟨v6, e7, h⟩ := ob h
    refine y_getR (pc := 45) dX9_keep_45 zf_X9_114 e7 ?_
    refine x_iload_n (pc := 48) dX9_keep_48 rfl rfl ?_
    refine x_aload_n (pc := 49) dX9_keep_49 rfl rfl hl0 ?_
    obtain ⟨v8, e9, h⟩ := ob h
    refine y_getI (pc := 50) dX9_keep_50 zf_X9_296 e9 (by decide) ?_
    obtain ⟨M10, e11, h⟩ := ob h
    refine y_iast (pc := 53) dX9_keep_53 e11 ?_
    refine x_aload_n (pc := 54) dX9_keep_54 rfl rfl hl0 ?_
    obtain ⟨v12, e13, h⟩ := ob h
    refine y_getR (pc := 55) dX9_keep_55 zf_X9_108 e13 ?_
    refine x_iload_n (pc := 58) dX9_keep_58 rfl rfl ?_
    refine x_iconst (pc := 59) dX9_keep_59 (v := 1) rfl ?_
    obtain ⟨M14, e15, h⟩ := ob h
    refine y_zast (pc := 60) dX9_keep_60 e15 ?_
    refine x_aload_n (pc := 61) dX9_keep_61 rfl rfl hl0 ?_
    refine x_iconst (pc := 62) dX9_keep_62 (v := 0) rfl ?_
    obtain ⟨M16, e17, h⟩ := ob h
    refine y_putI (pc := 63) dX9_keep_63 zf_X9_219 e17 ?_
    refine x_iconst (pc := 66) dX9_keep_66 (v := 1) rfl ?_
    obtain ⟨rfl, rfl⟩ := s2 h
    exact y_retI (pc := 67) dX9_keep_67 rfl
  · rw [if_pos c3] at h
    refine x_ldc (pc := 10) dX9_keep_10 zk_X9_238 ?_
    obtain ⟨rfl, rfl⟩ := s2 h
    exact y_retI (pc := 12) dX9_keep_12 rfl
def L_X9_goBack_28 : Nat → Nat → Int32 → Int32 → zM → Option (zM)
  | 0, _, _, _, _ => none
  | n + 1, l0, l1, l2, M => if 69 ≤ l2 then (some M) else ((oR M l0 9 58 0).bind fun v10 => (oR M l0 9 58 56).bind fun v12 => (aI M v12 ((69 * l1) + l2)).bind fun v14 => (sI M v10 l2 v14).bind fun M16 => L_X9_goBack_28 n l0 l1 (l2 + 1) M16)
def f_X9_goBack (l0 : Nat) (l1 : Int32) (M : zM) : Option (Int32 × zM) := bif Nat.ble 1 l0 then ((f_X9_in (Int32.toInt64 l1) 0 1 M).bind fun r1 => if r1 = 0 then (some ((-1000000001), M)) else ((oR M l0 9 58 55).bind fun v4 => (aZ M v4 l1).bind fun v6 => if v6 = 0 then (some ((-1000000003), M)) else ((L_X9_goBack_28 zN l0 l1 0 M).bind fun M10 => (oR M10 l0 9 58 57).bind fun v11 => (aI M10 v11 l1).bind fun v13 => (pI M10 l0 9 58 4 v13).bind fun M15 => (pI M15 l0 9 58 3 0).bind fun M17 => some (1, M17)))) else none
theorem LX_X9_goBack_28 {G : zG} {d : Nat} : ∀ (n : Nat) (l0 : Nat) (l1 : Int32) (l2 : Int32) (M : zM) (hl0 : l0 ≠ 0) (MX : zM) {res : Option Value × zM}, L_X9_goBack_28 n l0 l1 l2 M = some MX → Ex G (d + 1) yX9_goBack cX9_goBack 3 (some .int) 57 [.ref l0, .int l1, .null] [] MX res → Ex G (d + 1) yX9_goBack cX9_goBack 3 (some .int) 28 [.ref l0, .int l1, .int l2] [] M res := by
  intro n
  induction n with
  | zero =>
    intro l0 l1 l2 M hl0 MX res h K
    simp [L_X9_goBack_28] at h
  | succ n ih =>
    intro l0 l1 l2 M hl0 MX res h K
    simp only [L_X9_goBack_28] at h
    refine x_iload_n (pc := 28) dX9_goBack_28 rfl rfl ?_
    refine x_bipush (pc := 29) dX9_goBack_29 (v := 69) (by decide) ?_
    refine x_icmp_ge (pc := 31) dX9_goBack_31 (t := 57) rfl (fun c9 => ?_) (fun c9 => ?_)
    · rw [if_pos c9] at h
      obtain rfl := s1 h
      refine ex_weak (Ls2 := [.ref l0, .int l1, .null]) ⟨Or.inr rfl, Or.inr rfl, Or.inl rfl, trivial⟩ ?_
      exact K
    · rw [if_neg c9] at h
      refine x_aload_n (pc := 34) dX9_goBack_34 rfl rfl hl0 ?_
      obtain ⟨v10, e11, h⟩ := ob h
      refine y_getR (pc := 35) dX9_goBack_35 zf_X9_7 e11 ?_
      refine x_iload_n (pc := 38) dX9_goBack_38 rfl rfl ?_
      refine x_aload_n (pc := 39) dX9_goBack_39 rfl rfl hl0 ?_
      obtain ⟨v12, e13, h⟩ := ob h
      refine y_getR (pc := 40) dX9_goBack_40 zf_X9_111 e13 ?_
      refine x_bipush (pc := 43) dX9_goBack_43 (v := 69) (by decide) ?_
      refine x_iload_n (pc := 45) dX9_goBack_45 rfl rfl ?_
      refine x_imul (pc := 46) dX9_goBack_46 ?_
      refine x_iload_n (pc := 47) dX9_goBack_47 rfl rfl ?_
      refine x_iadd (pc := 48) dX9_goBack_48 ?_
      obtain ⟨v14, e15, h⟩ := ob h
      refine y_iald (pc := 49) dX9_goBack_49 e15 ?_
      obtain ⟨M16, e17, h⟩ := ob h
      refine y_iast (pc := 50) dX9_goBack_50 e17 ?_
      refine x_iinc (pc := 51) dX9_goBack_51 rfl rfl (by decide) rfl ?_
      refine x_goto (pc := 54) dX9_goBack_54 (t := 28) rfl ?_
      refine ex_weak (Ls2 := [.ref l0, .int l1, .int (l2 + 1)]) ⟨Or.inr rfl, Or.inr rfl, Or.inr rfl, trivial⟩ ?_
      exact ih _ _ _ _ hl0  _ h K
theorem E_X9_goBack {G : zG} {d : Nat} {l0 : Nat} {l1 : Int32} {M MR : zM} {r : Int32} (h : f_X9_goBack l0 l1 M = some (r, MR)) : Ex G (d + 1) yX9_goBack cX9_goBack 3 (some .int) 0 (zent0 [.ref l0, .int l1] 3) [] M (some (.int r), MR) := by
  unfold f_X9_goBack at h
  obtain ⟨zz0, h⟩ := bt h
  have hl0 := bz zz0
  show Ex _ _ _ _ _ _ 0 [.ref l0, .int l1, .null] [] _ _
  refine x_iload_n (pc := 0) dX9_goBack_0 rfl rfl ?_
  refine x_i2l (pc := 1) dX9_goBack_1 ?_
  refine x_lconst (pc := 2) dX9_goBack_2 (v := 0) rfl ?_
  refine x_lconst (pc := 3) dX9_goBack_3 (v := 1) rfl ?_
  obtain ⟨r1, e2, h⟩ := ob h
  refine x_callS (av := [.long (Int32.toInt64 l1), .long 0, .long 1]) (st := []) (pc := 4) dX9_goBack_4 (E_X9_in (d := d) e2) rfl (Nat.le_of_ble_eq_true rfl) zc_X9_in rfl zm_X9_120 zs_X9_in rfl (zst_ok rfl (Nat.le_of_ble_eq_true rfl)) rfl ?_
  refine x_if_ne (pc := 7) dX9_goBack_7 (t := 13) rfl (fun c3 => ?_) (fun c3 => ?_)
  · rw [if_neg c3] at h
    refine x_aload_n (pc := 13) dX9_goBack_13 rfl rfl hl0 ?_
    obtain ⟨v4, e5, h⟩ := ob h
    refine y_getR (pc := 14) dX9_goBack_14 zf_X9_108 e5 ?_
    refine x_iload_n (pc := 17) dX9_goBack_17 rfl rfl ?_
    obtain ⟨v6, e7, h⟩ := ob h
    refine y_zald (pc := 18) dX9_goBack_18 e7 ?_
    refine x_if_ne (pc := 19) dX9_goBack_19 (t := 26) rfl (fun c8 => ?_) (fun c8 => ?_)
    · rw [if_neg c8] at h
      refine x_iconst (pc := 26) dX9_goBack_26 (v := 0) rfl ?_
      refine x_istore_n (pc := 27) dX9_goBack_27 rfl (by decide) rfl ?_
      obtain ⟨M10, e9, h⟩ := ob h
      refine ex_weak (Ls2 := [.ref l0, .int l1, .int 0]) ⟨Or.inr rfl, Or.inr rfl, Or.inr rfl, trivial⟩ ?_
      refine LX_X9_goBack_28 zN _ _ _ _ hl0 _ e9 ?_
      refine x_aload_n (pc := 57) dX9_goBack_57 rfl rfl hl0 ?_
      refine x_aload_n (pc := 58) dX9_goBack_58 rfl rfl hl0 ?_
      obtain ⟨v11, e12, h⟩ := ob h
      refine y_getR (pc := 59) dX9_goBack_59 zf_X9_114 e12 ?_
      refine x_iload_n (pc := 62) dX9_goBack_62 rfl rfl ?_
      obtain ⟨v13, e14, h⟩ := ob h
      refine y_iald (pc := 63) dX9_goBack_63 e14 ?_
      obtain ⟨M15, e16, h⟩ := ob h
      refine y_putI (pc := 64) dX9_goBack_64 zf_X9_296 e16 ?_
      refine x_aload_n (pc := 67) dX9_goBack_67 rfl rfl hl0 ?_
      refine x_iconst (pc := 68) dX9_goBack_68 (v := 0) rfl ?_
      obtain ⟨M17, e18, h⟩ := ob h
      refine y_putI (pc := 69) dX9_goBack_69 zf_X9_219 e18 ?_
      refine x_iconst (pc := 72) dX9_goBack_72 (v := 1) rfl ?_
      obtain ⟨rfl, rfl⟩ := s2 h
      exact y_retI (pc := 73) dX9_goBack_73 rfl
    · rw [if_pos c8] at h
      refine x_ldcw (pc := 22) dX9_goBack_22 zk_X9_286 ?_
      obtain ⟨rfl, rfl⟩ := s2 h
      exact y_retI (pc := 25) dX9_goBack_25 rfl
  · rw [if_pos c3] at h
    refine x_ldc (pc := 10) dX9_goBack_10 zk_X9_238 ?_
    obtain ⟨rfl, rfl⟩ := s2 h
    exact y_retI (pc := 12) dX9_goBack_12 rfl
