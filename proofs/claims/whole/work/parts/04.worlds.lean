-- the two worlds: the class's cells (the claims that are made later come behind, ext), the reference's cells
def layC : List CD := [(4, 11, [some 1, some 32, some 63, some 69, some 78, some 80, some 84, none]), (4, 2, [some 2, some 8, some 13, some 18, some 29, some 30, some 31, none, none]), (4, 8, [some 3, some 4, some 5, some 6, some 7, none, none, none, none, none]), (0, 8, []), (2, 8, []), (0, 8, []), (2, 8, []), (0, 8, []), (4, 4, [some 9, some 10, some 11, some 12, none, none]), (0, 10, []), (2, 10, []), (0, 10, []), (2, 10, []), (4, 10, [some 14, some 15, some 16, some 17, none]), (2, 6, []), (0, 6, []), (0, 36, []), (0, 36, []), (4, 9, [some 19, some 20, some 21, some 22, some 23, none, some 24, some 25, some 26, some 27, some 28, none]), (0, 3, []), (0, 3, []), (0, 3, []), (0, 3, []), (0, 3, []), (0, 24, []), (0, 24, []), (2, 24, []), (0, 24, []), (0, 24, []), (0, 24, []), (0, 24, []), (3, 6, []), (4, 2, [some 33, some 39, some 44, some 49, some 60, some 61, some 62, none, none]), (4, 8, [some 34, some 35, some 36, some 37, some 38, none, none, none, none, none]), (0, 8, []), (2, 8, []), (0, 8, []), (2, 8, []), (0, 8, []), (4, 4, [some 40, some 41, some 42, some 43, none, none]), (0, 10, []), (2, 10, []), (0, 10, []), (2, 10, []), (4, 10, [some 45, some 46, some 47, some 48, none]), (2, 6, []), (0, 6, []), (0, 36, []), (0, 36, []), (4, 9, [some 50, some 51, some 52, some 53, some 54, none, some 55, some 56, some 57, some 58, some 59, none]), (0, 3, []), (0, 3, []), (0, 3, []), (0, 3, []), (0, 3, []), (0, 24, []), (0, 24, []), (2, 24, []), (0, 24, []), (0, 24, []), (0, 24, []), (0, 24, []), (3, 6, []), (4, 5, [some 1, some 64, some 65, some 66, some 67, some 68, none, none, none, none, none, none, none, none, none]), (0, 10, []), (0, 1710, []), (0, 1710, []), (0, 1087, []), (0, 1087, []), (4, 3, [some 1, some 63, some 70, some 71, some 72, some 73, some 74, some 75, some 76, some 77, none, none, none, none, none, none, none, none, none]), (0, 24, []), (0, 24, []), (0, 24, []), (0, 6, []), (0, 6, []), (0, 101, []), (0, 101, []), (0, 32, []), (4, 0, [some 1, some 69, some 79, none, none]), (0, 6, []), (4, 7, [some 1, some 69, some 81, some 82, some 83, none, none, none]), (0, 10, []), (0, 10, []), (1, 1024, []), (4, 6, [some 85, some 86, some 87, some 88, none, none, none, none, none]), (1, 400, []), (0, 401, []), (0, 401, []), (0, 400, [])]
def layM : List CD := [(4, 12, [none, some 1, some 2, none, some 3, some 4, some 5, some 6, none, none, none, none, some 7, some 8, none, some 9, none, none, some 10, none, none, none, none, none, none, some 11, none, some 12]), (0, 5966, []), (0, 5165, []), (0, 1710, []), (0, 1710, []), (0, 24, []), (0, 24, []), (0, 10, []), (0, 1024, []), (0, 202, []), (1, 400, []), (0, 5, []), (0, 400, [])]
theorem lc0 {ext : List CD} : (layC ++ ext)[0]? = some (4, 11, [some 1, some 32, some 63, some 69, some 78, some 80, some 84, none]) := rfl
theorem lc1 {ext : List CD} : (layC ++ ext)[1]? = some (4, 2, [some 2, some 8, some 13, some 18, some 29, some 30, some 31, none, none]) := rfl
theorem lc2 {ext : List CD} : (layC ++ ext)[2]? = some (4, 8, [some 3, some 4, some 5, some 6, some 7, none, none, none, none, none]) := rfl
theorem lc3 {ext : List CD} : (layC ++ ext)[3]? = some (0, 8, []) := rfl
theorem lc4 {ext : List CD} : (layC ++ ext)[4]? = some (2, 8, []) := rfl
theorem lc5 {ext : List CD} : (layC ++ ext)[5]? = some (0, 8, []) := rfl
theorem lc6 {ext : List CD} : (layC ++ ext)[6]? = some (2, 8, []) := rfl
theorem lc7 {ext : List CD} : (layC ++ ext)[7]? = some (0, 8, []) := rfl
theorem lc8 {ext : List CD} : (layC ++ ext)[8]? = some (4, 4, [some 9, some 10, some 11, some 12, none, none]) := rfl
theorem lc9 {ext : List CD} : (layC ++ ext)[9]? = some (0, 10, []) := rfl
theorem lc10 {ext : List CD} : (layC ++ ext)[10]? = some (2, 10, []) := rfl
theorem lc11 {ext : List CD} : (layC ++ ext)[11]? = some (0, 10, []) := rfl
theorem lc12 {ext : List CD} : (layC ++ ext)[12]? = some (2, 10, []) := rfl
theorem lc13 {ext : List CD} : (layC ++ ext)[13]? = some (4, 10, [some 14, some 15, some 16, some 17, none]) := rfl
theorem lc14 {ext : List CD} : (layC ++ ext)[14]? = some (2, 6, []) := rfl
theorem lc15 {ext : List CD} : (layC ++ ext)[15]? = some (0, 6, []) := rfl
theorem lc16 {ext : List CD} : (layC ++ ext)[16]? = some (0, 36, []) := rfl
theorem lc17 {ext : List CD} : (layC ++ ext)[17]? = some (0, 36, []) := rfl
theorem lc18 {ext : List CD} : (layC ++ ext)[18]? = some (4, 9, [some 19, some 20, some 21, some 22, some 23, none, some 24, some 25, some 26, some 27, some 28, none]) := rfl
theorem lc19 {ext : List CD} : (layC ++ ext)[19]? = some (0, 3, []) := rfl
theorem lc20 {ext : List CD} : (layC ++ ext)[20]? = some (0, 3, []) := rfl
theorem lc21 {ext : List CD} : (layC ++ ext)[21]? = some (0, 3, []) := rfl
theorem lc22 {ext : List CD} : (layC ++ ext)[22]? = some (0, 3, []) := rfl
theorem lc23 {ext : List CD} : (layC ++ ext)[23]? = some (0, 3, []) := rfl
theorem lc24 {ext : List CD} : (layC ++ ext)[24]? = some (0, 24, []) := rfl
theorem lc25 {ext : List CD} : (layC ++ ext)[25]? = some (0, 24, []) := rfl
theorem lc26 {ext : List CD} : (layC ++ ext)[26]? = some (2, 24, []) := rfl
theorem lc27 {ext : List CD} : (layC ++ ext)[27]? = some (0, 24, []) := rfl
theorem lc28 {ext : List CD} : (layC ++ ext)[28]? = some (0, 24, []) := rfl
theorem lc29 {ext : List CD} : (layC ++ ext)[29]? = some (0, 24, []) := rfl
theorem lc30 {ext : List CD} : (layC ++ ext)[30]? = some (0, 24, []) := rfl
theorem lc31 {ext : List CD} : (layC ++ ext)[31]? = some (3, 6, []) := rfl
theorem lc32 {ext : List CD} : (layC ++ ext)[32]? = some (4, 2, [some 33, some 39, some 44, some 49, some 60, some 61, some 62, none, none]) := rfl
theorem lc33 {ext : List CD} : (layC ++ ext)[33]? = some (4, 8, [some 34, some 35, some 36, some 37, some 38, none, none, none, none, none]) := rfl
theorem lc34 {ext : List CD} : (layC ++ ext)[34]? = some (0, 8, []) := rfl
theorem lc35 {ext : List CD} : (layC ++ ext)[35]? = some (2, 8, []) := rfl
theorem lc36 {ext : List CD} : (layC ++ ext)[36]? = some (0, 8, []) := rfl
theorem lc37 {ext : List CD} : (layC ++ ext)[37]? = some (2, 8, []) := rfl
theorem lc38 {ext : List CD} : (layC ++ ext)[38]? = some (0, 8, []) := rfl
theorem lc39 {ext : List CD} : (layC ++ ext)[39]? = some (4, 4, [some 40, some 41, some 42, some 43, none, none]) := rfl
theorem lc40 {ext : List CD} : (layC ++ ext)[40]? = some (0, 10, []) := rfl
theorem lc41 {ext : List CD} : (layC ++ ext)[41]? = some (2, 10, []) := rfl
theorem lc42 {ext : List CD} : (layC ++ ext)[42]? = some (0, 10, []) := rfl
theorem lc43 {ext : List CD} : (layC ++ ext)[43]? = some (2, 10, []) := rfl
theorem lc44 {ext : List CD} : (layC ++ ext)[44]? = some (4, 10, [some 45, some 46, some 47, some 48, none]) := rfl
theorem lc45 {ext : List CD} : (layC ++ ext)[45]? = some (2, 6, []) := rfl
theorem lc46 {ext : List CD} : (layC ++ ext)[46]? = some (0, 6, []) := rfl
theorem lc47 {ext : List CD} : (layC ++ ext)[47]? = some (0, 36, []) := rfl
theorem lc48 {ext : List CD} : (layC ++ ext)[48]? = some (0, 36, []) := rfl
theorem lc49 {ext : List CD} : (layC ++ ext)[49]? = some (4, 9, [some 50, some 51, some 52, some 53, some 54, none, some 55, some 56, some 57, some 58, some 59, none]) := rfl
theorem lc50 {ext : List CD} : (layC ++ ext)[50]? = some (0, 3, []) := rfl
theorem lc51 {ext : List CD} : (layC ++ ext)[51]? = some (0, 3, []) := rfl
theorem lc52 {ext : List CD} : (layC ++ ext)[52]? = some (0, 3, []) := rfl
theorem lc53 {ext : List CD} : (layC ++ ext)[53]? = some (0, 3, []) := rfl
theorem lc54 {ext : List CD} : (layC ++ ext)[54]? = some (0, 3, []) := rfl
theorem lc55 {ext : List CD} : (layC ++ ext)[55]? = some (0, 24, []) := rfl
theorem lc56 {ext : List CD} : (layC ++ ext)[56]? = some (0, 24, []) := rfl
theorem lc57 {ext : List CD} : (layC ++ ext)[57]? = some (2, 24, []) := rfl
theorem lc58 {ext : List CD} : (layC ++ ext)[58]? = some (0, 24, []) := rfl
theorem lc59 {ext : List CD} : (layC ++ ext)[59]? = some (0, 24, []) := rfl
theorem lc60 {ext : List CD} : (layC ++ ext)[60]? = some (0, 24, []) := rfl
theorem lc61 {ext : List CD} : (layC ++ ext)[61]? = some (0, 24, []) := rfl
theorem lc62 {ext : List CD} : (layC ++ ext)[62]? = some (3, 6, []) := rfl
theorem lc63 {ext : List CD} : (layC ++ ext)[63]? = some (4, 5, [some 1, some 64, some 65, some 66, some 67, some 68, none, none, none, none, none, none, none, none, none]) := rfl
theorem lc64 {ext : List CD} : (layC ++ ext)[64]? = some (0, 10, []) := rfl
theorem lc65 {ext : List CD} : (layC ++ ext)[65]? = some (0, 1710, []) := rfl
theorem lc66 {ext : List CD} : (layC ++ ext)[66]? = some (0, 1710, []) := rfl
theorem lc67 {ext : List CD} : (layC ++ ext)[67]? = some (0, 1087, []) := rfl
theorem lc68 {ext : List CD} : (layC ++ ext)[68]? = some (0, 1087, []) := rfl
theorem lc69 {ext : List CD} : (layC ++ ext)[69]? = some (4, 3, [some 1, some 63, some 70, some 71, some 72, some 73, some 74, some 75, some 76, some 77, none, none, none, none, none, none, none, none, none]) := rfl
theorem lc70 {ext : List CD} : (layC ++ ext)[70]? = some (0, 24, []) := rfl
theorem lc71 {ext : List CD} : (layC ++ ext)[71]? = some (0, 24, []) := rfl
theorem lc72 {ext : List CD} : (layC ++ ext)[72]? = some (0, 24, []) := rfl
theorem lc73 {ext : List CD} : (layC ++ ext)[73]? = some (0, 6, []) := rfl
theorem lc74 {ext : List CD} : (layC ++ ext)[74]? = some (0, 6, []) := rfl
theorem lc75 {ext : List CD} : (layC ++ ext)[75]? = some (0, 101, []) := rfl
theorem lc76 {ext : List CD} : (layC ++ ext)[76]? = some (0, 101, []) := rfl
theorem lc77 {ext : List CD} : (layC ++ ext)[77]? = some (0, 32, []) := rfl
theorem lc78 {ext : List CD} : (layC ++ ext)[78]? = some (4, 0, [some 1, some 69, some 79, none, none]) := rfl
theorem lc79 {ext : List CD} : (layC ++ ext)[79]? = some (0, 6, []) := rfl
theorem lc80 {ext : List CD} : (layC ++ ext)[80]? = some (4, 7, [some 1, some 69, some 81, some 82, some 83, none, none, none]) := rfl
theorem lc81 {ext : List CD} : (layC ++ ext)[81]? = some (0, 10, []) := rfl
theorem lc82 {ext : List CD} : (layC ++ ext)[82]? = some (0, 10, []) := rfl
theorem lc83 {ext : List CD} : (layC ++ ext)[83]? = some (1, 1024, []) := rfl
theorem lc84 {ext : List CD} : (layC ++ ext)[84]? = some (4, 6, [some 85, some 86, some 87, some 88, none, none, none, none, none]) := rfl
theorem lc85 {ext : List CD} : (layC ++ ext)[85]? = some (1, 400, []) := rfl
theorem lc86 {ext : List CD} : (layC ++ ext)[86]? = some (0, 401, []) := rfl
theorem lc87 {ext : List CD} : (layC ++ ext)[87]? = some (0, 401, []) := rfl
theorem lc88 {ext : List CD} : (layC ++ ext)[88]? = some (0, 400, []) := rfl
theorem lm0 : layM[0]? = some (4, 12, [none, some 1, some 2, none, some 3, some 4, some 5, some 6, none, none, none, none, some 7, some 8, none, some 9, none, none, some 10, none, none, none, none, none, none, some 11, none, some 12]) := rfl
theorem lm1 : layM[1]? = some (0, 5966, []) := rfl
theorem lm2 : layM[2]? = some (0, 5165, []) := rfl
theorem lm3 : layM[3]? = some (0, 1710, []) := rfl
theorem lm4 : layM[4]? = some (0, 1710, []) := rfl
theorem lm5 : layM[5]? = some (0, 24, []) := rfl
theorem lm6 : layM[6]? = some (0, 24, []) := rfl
theorem lm7 : layM[7]? = some (0, 10, []) := rfl
theorem lm8 : layM[8]? = some (0, 1024, []) := rfl
theorem lm9 : layM[9]? = some (0, 202, []) := rfl
theorem lm10 : layM[10]? = some (1, 400, []) := rfl
theorem lm11 : layM[11]? = some (0, 5, []) := rfl
theorem lm12 : layM[12]? = some (0, 400, []) := rfl
theorem f_RX11_10 : FldG RX11 10 11 0 RX11 TX11 8 := ⟨rfl, by decide, wsX11_in, g3 30 (by decide +kernel) (by decide +kernel)⟩
theorem f_RX11_16 : FldG RX11 16 11 1 RX11 TX11 8 := ⟨rfl, by decide, wsX11_in, g3 31 (by decide +kernel) (by decide +kernel)⟩
theorem f_RX11_24 : FldG RX11 24 11 2 RX11 TX11 8 := ⟨rfl, by decide, wsX11_in, g3 32 (by decide +kernel) (by decide +kernel)⟩
theorem f_RX11_33 : FldG RX11 33 11 3 RX11 TX11 8 := ⟨rfl, by decide, wsX11_in, g3 33 (by decide +kernel) (by decide +kernel)⟩
theorem f_RX11_42 : FldG RX11 42 11 4 RX11 TX11 8 := ⟨rfl, by decide, wsX11_in, g3 34 (by decide +kernel) (by decide +kernel)⟩
theorem f_RX11_49 : FldG RX11 49 11 5 RX11 TX11 8 := ⟨rfl, by decide, wsX11_in, g3 35 (by decide +kernel) (by decide +kernel)⟩
theorem f_RX11_56 : FldG RX11 56 11 6 RX11 TX11 8 := ⟨rfl, by decide, wsX11_in, g3 36 (by decide +kernel) (by decide +kernel)⟩
theorem f_RX11_60 : FldG RX11 60 6 4 RX6 TX6 9 := ⟨rfl, by decide, wsX6_in, g3 3 (by decide +kernel) (by decide +kernel)⟩
theorem f_RX11_60p : FldP 4 TX6 9 .int := ⟨⟨_, tyX6_ok⟩, nmX6, rfl, by decide +kernel⟩
theorem f_RX11_76 : FldG RX11 76 2 0 RX2 TX2 9 := ⟨rfl, by decide, wsX2_in, g1 229 (by decide +kernel) (by decide +kernel)⟩
theorem f_RX11_80 : FldG RX11 80 8 6 RX8 TX8 10 := ⟨rfl, by decide, wsX8_in, g1 62 (by decide +kernel) (by decide +kernel)⟩
theorem f_RX11_80p : FldP 6 TX8 10 .int := ⟨⟨_, tyX8_ok⟩, nmX8, rfl, by decide +kernel⟩
theorem f_RX11_85 : FldG RX11 85 8 7 RX8 TX8 10 := ⟨rfl, by decide, wsX8_in, g1 64 (by decide +kernel) (by decide +kernel)⟩
theorem f_RX11_85p : FldP 7 TX8 10 .int := ⟨⟨_, tyX8_ok⟩, nmX8, rfl, by decide +kernel⟩
theorem f_RX11_88 : FldG RX11 88 8 8 RX8 TX8 10 := ⟨rfl, by decide, wsX8_in, g1 66 (by decide +kernel) (by decide +kernel)⟩
theorem f_RX11_88p : FldP 8 TX8 10 .int := ⟨⟨_, tyX8_ok⟩, nmX8, rfl, by decide +kernel⟩
theorem f_RX11_91 : FldG RX11 91 8 9 RX8 TX8 10 := ⟨rfl, by decide, wsX8_in, g1 68 (by decide +kernel) (by decide +kernel)⟩
theorem f_RX11_91p : FldP 9 TX8 10 .int := ⟨⟨_, tyX8_ok⟩, nmX8, rfl, by decide +kernel⟩
theorem f_RX11_101 : FldG RX11 101 8 5 RX8 TX8 10 := ⟨rfl, by decide, wsX8_in, g1 60 (by decide +kernel) (by decide +kernel)⟩
theorem f_RX11_101p : FldP 5 TX8 10 .int := ⟨⟨_, tyX8_ok⟩, nmX8, rfl, by decide +kernel⟩
theorem f_RX11_107 : FldG RX11 107 8 0 RX8 TX8 10 := ⟨rfl, by decide, wsX8_in, g1 50 (by decide +kernel) (by decide +kernel)⟩
theorem f_RX11_111 : FldG RX11 111 8 1 RX8 TX8 10 := ⟨rfl, by decide, wsX8_in, g1 52 (by decide +kernel) (by decide +kernel)⟩
theorem f_RX11_115 : FldG RX11 115 8 2 RX8 TX8 10 := ⟨rfl, by decide, wsX8_in, g1 54 (by decide +kernel) (by decide +kernel)⟩
theorem f_RX11_118 : FldG RX11 118 8 3 RX8 TX8 10 := ⟨rfl, by decide, wsX8_in, g1 56 (by decide +kernel) (by decide +kernel)⟩
theorem f_RX11_121 : FldG RX11 121 8 4 RX8 TX8 10 := ⟨rfl, by decide, wsX8_in, g1 58 (by decide +kernel) (by decide +kernel)⟩
theorem f_RX11_132 : FldG RX11 132 2 1 RX2 TX2 9 := ⟨rfl, by decide, wsX2_in, g1 232 (by decide +kernel) (by decide +kernel)⟩
theorem f_RX11_136 : FldG RX11 136 4 5 RX4 TX4 6 := ⟨rfl, by decide, wsX4_in, g1 114 (by decide +kernel) (by decide +kernel)⟩
theorem f_RX11_136p : FldP 5 TX4 6 .int := ⟨⟨_, tyX4_ok⟩, nmX4, rfl, by decide +kernel⟩
theorem f_RX11_145 : FldG RX11 145 4 4 RX4 TX4 6 := ⟨rfl, by decide, wsX4_in, g1 111 (by decide +kernel) (by decide +kernel)⟩
theorem f_RX11_145p : FldP 4 TX4 6 .int := ⟨⟨_, tyX4_ok⟩, nmX4, rfl, by decide +kernel⟩
theorem f_RX11_148 : FldG RX11 148 4 0 RX4 TX4 6 := ⟨rfl, by decide, wsX4_in, g1 99 (by decide +kernel) (by decide +kernel)⟩
theorem f_RX11_151 : FldG RX11 151 4 1 RX4 TX4 6 := ⟨rfl, by decide, wsX4_in, g1 102 (by decide +kernel) (by decide +kernel)⟩
theorem f_RX11_154 : FldG RX11 154 4 2 RX4 TX4 6 := ⟨rfl, by decide, wsX4_in, g1 105 (by decide +kernel) (by decide +kernel)⟩
theorem f_RX11_157 : FldG RX11 157 4 3 RX4 TX4 6 := ⟨rfl, by decide, wsX4_in, g1 108 (by decide +kernel) (by decide +kernel)⟩
theorem f_RX11_163 : FldG RX11 163 5 8 RX5 TX5 15 := ⟨rfl, by decide, wsX5_in, g2 54 (by decide +kernel) (by decide +kernel)⟩
theorem f_RX11_170 : FldG RX11 170 5 9 RX5 TX5 15 := ⟨rfl, by decide, wsX5_in, g2 56 (by decide +kernel) (by decide +kernel)⟩
theorem f_RX11_173 : FldG RX11 173 5 10 RX5 TX5 15 := ⟨rfl, by decide, wsX5_in, g2 58 (by decide +kernel) (by decide +kernel)⟩
theorem f_RX11_176 : FldG RX11 176 5 11 RX5 TX5 15 := ⟨rfl, by decide, wsX5_in, g2 60 (by decide +kernel) (by decide +kernel)⟩
theorem f_RX11_188 : FldG RX11 188 2 2 RX2 TX2 9 := ⟨rfl, by decide, wsX2_in, g1 237 (by decide +kernel) (by decide +kernel)⟩
theorem f_RX11_192 : FldG RX11 192 10 4 RX10 TX10 5 := ⟨rfl, by decide, wsX10_in, g1 150 (by decide +kernel) (by decide +kernel)⟩
theorem f_RX11_192p : FldP 4 TX10 5 .int := ⟨⟨_, tyX10_ok⟩, nmX10, rfl, by decide +kernel⟩
theorem f_RX11_195 : FldG RX11 195 10 0 RX10 TX10 5 := ⟨rfl, by decide, wsX10_in, g1 137 (by decide +kernel) (by decide +kernel)⟩
theorem f_RX11_198 : FldG RX11 198 10 1 RX10 TX10 5 := ⟨rfl, by decide, wsX10_in, g1 140 (by decide +kernel) (by decide +kernel)⟩
theorem f_RX11_204 : FldG RX11 204 10 2 RX10 TX10 5 := ⟨rfl, by decide, wsX10_in, g1 143 (by decide +kernel) (by decide +kernel)⟩
theorem f_RX11_205 : FldG RX11 205 10 3 RX10 TX10 5 := ⟨rfl, by decide, wsX10_in, g1 146 (by decide +kernel) (by decide +kernel)⟩
theorem f_RX11_208 : FldG RX11 208 2 3 RX2 TX2 9 := ⟨rfl, by decide, wsX2_in, g2 1 (by decide +kernel) (by decide +kernel)⟩
theorem f_RX11_212 : FldG RX11 212 9 5 RX9 TX9 12 := ⟨rfl, by decide, wsX9_in, g1 180 (by decide +kernel) (by decide +kernel)⟩
theorem f_RX11_212p : FldP 5 TX9 12 .int := ⟨⟨_, tyX9_ok⟩, nmX9, rfl, by decide +kernel⟩
theorem f_RX11_217 : FldG RX11 217 9 0 RX9 TX9 12 := ⟨rfl, by decide, wsX9_in, g1 169 (by decide +kernel) (by decide +kernel)⟩
theorem f_RX11_220 : FldG RX11 220 9 1 RX9 TX9 12 := ⟨rfl, by decide, wsX9_in, g1 171 (by decide +kernel) (by decide +kernel)⟩
theorem f_RX11_223 : FldG RX11 223 9 2 RX9 TX9 12 := ⟨rfl, by decide, wsX9_in, g1 174 (by decide +kernel) (by decide +kernel)⟩
theorem f_RX11_226 : FldG RX11 226 9 3 RX9 TX9 12 := ⟨rfl, by decide, wsX9_in, g1 176 (by decide +kernel) (by decide +kernel)⟩
theorem f_RX11_229 : FldG RX11 229 9 4 RX9 TX9 12 := ⟨rfl, by decide, wsX9_in, g1 178 (by decide +kernel) (by decide +kernel)⟩
theorem f_RX11_235 : FldG RX11 235 9 11 RX9 TX9 12 := ⟨rfl, by decide, wsX9_in, g1 199 (by decide +kernel) (by decide +kernel)⟩
theorem f_RX11_235p : FldP 11 TX9 12 .int := ⟨⟨_, tyX9_ok⟩, nmX9, rfl, by decide +kernel⟩
theorem f_RX11_238 : FldG RX11 238 9 6 RX9 TX9 12 := ⟨rfl, by decide, wsX9_in, g1 183 (by decide +kernel) (by decide +kernel)⟩
theorem f_RX11_241 : FldG RX11 241 9 7 RX9 TX9 12 := ⟨rfl, by decide, wsX9_in, g1 186 (by decide +kernel) (by decide +kernel)⟩
theorem f_RX11_242 : FldG RX11 242 9 8 RX9 TX9 12 := ⟨rfl, by decide, wsX9_in, g1 189 (by decide +kernel) (by decide +kernel)⟩
theorem f_RX11_243 : FldG RX11 243 9 9 RX9 TX9 12 := ⟨rfl, by decide, wsX9_in, g1 192 (by decide +kernel) (by decide +kernel)⟩
theorem f_RX11_244 : FldG RX11 244 9 10 RX9 TX9 12 := ⟨rfl, by decide, wsX9_in, g1 194 (by decide +kernel) (by decide +kernel)⟩
theorem f_RX11_274 : FldG RX11 274 3 15 RX3 TX3 19 := ⟨rfl, by decide, wsX3_in, g2 125 (by decide +kernel) (by decide +kernel)⟩
theorem f_RX11_277 : FldG RX11 277 3 16 RX3 TX3 19 := ⟨rfl, by decide, wsX3_in, g2 128 (by decide +kernel) (by decide +kernel)⟩
theorem f_RX11_280 : FldG RX11 280 3 17 RX3 TX3 19 := ⟨rfl, by decide, wsX3_in, g2 131 (by decide +kernel) (by decide +kernel)⟩
theorem f_RX11_283 : FldG RX11 283 3 18 RX3 TX3 19 := ⟨rfl, by decide, wsX3_in, g2 134 (by decide +kernel) (by decide +kernel)⟩
theorem f_RX11_296 : FldG RX11 296 3 14 RX3 TX3 19 := ⟨rfl, by decide, wsX3_in, g2 122 (by decide +kernel) (by decide +kernel)⟩
theorem f_RX11_320 : FldG RX11 320 7 7 RX7 TX7 8 := ⟨rfl, by decide, wsX7_in, g2 213 (by decide +kernel) (by decide +kernel)⟩
theorem f_RX11_323 : FldG RX11 323 7 6 RX7 TX7 8 := ⟨rfl, by decide, wsX7_in, g2 211 (by decide +kernel) (by decide +kernel)⟩
theorem f_RX11_342 : FldG RX11 342 2 7 RX2 TX2 9 := ⟨rfl, by decide, wsX2_in, g2 12 (by decide +kernel) (by decide +kernel)⟩
theorem f_RX11_342p : FldP 7 TX2 9 .int := ⟨⟨_, tyX2_ok⟩, nmX2, rfl, by decide +kernel⟩
theorem f_RX11_345 : FldG RX11 345 2 4 RX2 TX2 9 := ⟨rfl, by decide, wsX2_in, g2 4 (by decide +kernel) (by decide +kernel)⟩
theorem f_RX11_348 : FldG RX11 348 2 5 RX2 TX2 9 := ⟨rfl, by decide, wsX2_in, g2 7 (by decide +kernel) (by decide +kernel)⟩
theorem f_RX11_360 : FldG RX11 360 0 4 RX0 TX0 5 := ⟨rfl, by decide, wsX0_in, g2 186 (by decide +kernel) (by decide +kernel)⟩
theorem f_RX11_363 : FldG RX11 363 0 3 RX0 TX0 5 := ⟨rfl, by decide, wsX0_in, g2 184 (by decide +kernel) (by decide +kernel)⟩
theorem f_RX11_382 : FldG RX11 382 2 8 RX2 TX2 9 := ⟨rfl, by decide, wsX2_in, g2 14 (by decide +kernel) (by decide +kernel)⟩
theorem f_RX11_382p : FldP 8 TX2 9 .int := ⟨⟨_, tyX2_ok⟩, nmX2, rfl, by decide +kernel⟩
theorem f_RX11_385 : FldG RX11 385 2 6 RX2 TX2 9 := ⟨rfl, by decide, wsX2_in, g2 9 (by decide +kernel) (by decide +kernel)⟩
theorem f_RX11_391 : FldG RX11 391 6 3 RX6 TX6 9 := ⟨rfl, by decide, wsX6_in, g3 2 (by decide +kernel) (by decide +kernel)⟩
theorem f_RX11_394 : FldG RX11 394 6 7 RX6 TX6 9 := ⟨rfl, by decide, wsX6_in, g3 8 (by decide +kernel) (by decide +kernel)⟩
theorem f_RX11_398 : FldG RX11 398 6 8 RX6 TX6 9 := ⟨rfl, by decide, wsX6_in, g3 10 (by decide +kernel) (by decide +kernel)⟩
theorem f_RX11_408 : FldG RX11 408 11 7 RX11 TX11 8 := ⟨rfl, by decide, wsX11_in, g3 37 (by decide +kernel) (by decide +kernel)⟩
theorem f_RX11_408p : FldP 7 TX11 8 .boolean := ⟨⟨_, tyX11_ok⟩, nmX11, rfl, by decide +kernel⟩
theorem f_RX11_422 : FldG RX11 422 5 5 RX5 TX5 15 := ⟨rfl, by decide, wsX5_in, g2 49 (by decide +kernel) (by decide +kernel)⟩
theorem f_RX11_425 : FldG RX11 425 5 4 RX5 TX5 15 := ⟨rfl, by decide, wsX5_in, g2 46 (by decide +kernel) (by decide +kernel)⟩
theorem f_RX0_9 : FldG RX0 9 0 2 RX0 TX0 5 := ⟨rfl, by decide, wsX0_in, g2 182 (by decide +kernel) (by decide +kernel)⟩
theorem f_RX0_15 : FldG RX0 15 0 0 RX0 TX0 5 := ⟨rfl, by decide, wsX0_in, g2 180 (by decide +kernel) (by decide +kernel)⟩
theorem f_RX0_19 : FldG RX0 19 0 1 RX0 TX0 5 := ⟨rfl, by decide, wsX0_in, g2 181 (by decide +kernel) (by decide +kernel)⟩
theorem f_RX0_23 : FldG RX0 23 2 2 RX2 TX2 9 := ⟨rfl, by decide, wsX2_in, g1 235 (by decide +kernel) (by decide +kernel)⟩
theorem f_RX0_35 : FldG RX0 35 10 4 RX10 TX10 5 := ⟨rfl, by decide, wsX10_in, g1 147 (by decide +kernel) (by decide +kernel)⟩
theorem f_RX0_49 : FldG RX0 49 0 3 RX0 TX0 5 := ⟨rfl, by decide, wsX0_in, g2 183 (by decide +kernel) (by decide +kernel)⟩
theorem f_RX0_49p : FldP 3 TX0 5 .int := ⟨⟨_, tyX0_ok⟩, nmX0, rfl, by decide +kernel⟩
theorem f_RX0_52 : FldG RX0 52 0 4 RX0 TX0 5 := ⟨rfl, by decide, wsX0_in, g2 185 (by decide +kernel) (by decide +kernel)⟩
theorem f_RX0_52p : FldP 4 TX0 5 .int := ⟨⟨_, tyX0_ok⟩, nmX0, rfl, by decide +kernel⟩
theorem f_RX0_55 : FldG RX0 55 2 4 RX2 TX2 9 := ⟨rfl, by decide, wsX2_in, g2 3 (by decide +kernel) (by decide +kernel)⟩
theorem f_RX0_58 : FldG RX0 58 2 5 RX2 TX2 9 := ⟨rfl, by decide, wsX2_in, g2 6 (by decide +kernel) (by decide +kernel)⟩
theorem f_RX0_69 : FldG RX0 69 10 0 RX10 TX10 5 := ⟨rfl, by decide, wsX10_in, g1 136 (by decide +kernel) (by decide +kernel)⟩
theorem f_RX0_84 : FldG RX0 84 2 7 RX2 TX2 9 := ⟨rfl, by decide, wsX2_in, g2 11 (by decide +kernel) (by decide +kernel)⟩
theorem f_RX1_15 : FldG RX1 15 1 0 RX1 TX1 1 := ⟨rfl, by decide, wsX1_in, g7 83 (by decide +kernel) (by decide +kernel)⟩
theorem f_RX1_21 : FldG RX1 21 3 9 RX3 TX3 19 := ⟨rfl, by decide, wsX3_in, g2 114 (by decide +kernel) (by decide +kernel)⟩
theorem f_RX1_34 : FldG RX1 34 3 15 RX3 TX3 19 := ⟨rfl, by decide, wsX3_in, g2 123 (by decide +kernel) (by decide +kernel)⟩
theorem f_RX1_38 : FldG RX1 38 3 16 RX3 TX3 19 := ⟨rfl, by decide, wsX3_in, g2 126 (by decide +kernel) (by decide +kernel)⟩
theorem f_RX1_47 : FldG RX1 47 3 11 RX3 TX3 19 := ⟨rfl, by decide, wsX3_in, g2 117 (by decide +kernel) (by decide +kernel)⟩
theorem f_RX1_50 : FldG RX1 50 3 12 RX3 TX3 19 := ⟨rfl, by decide, wsX3_in, g2 119 (by decide +kernel) (by decide +kernel)⟩
theorem f_RX1_53 : FldG RX1 53 3 1 RX3 TX3 19 := ⟨rfl, by decide, wsX3_in, g2 103 (by decide +kernel) (by decide +kernel)⟩
theorem f_RX1_57 : FldG RX1 57 5 8 RX5 TX5 15 := ⟨rfl, by decide, wsX5_in, g2 53 (by decide +kernel) (by decide +kernel)⟩
theorem f_RX1_68 : FldG RX1 68 3 17 RX3 TX3 19 := ⟨rfl, by decide, wsX3_in, g2 129 (by decide +kernel) (by decide +kernel)⟩
theorem f_RX1_71 : FldG RX1 71 3 18 RX3 TX3 19 := ⟨rfl, by decide, wsX3_in, g2 132 (by decide +kernel) (by decide +kernel)⟩
theorem f_RX2_12 : FldG RX2 12 2 0 RX2 TX2 9 := ⟨rfl, by decide, wsX2_in, g1 227 (by decide +kernel) (by decide +kernel)⟩
theorem f_RX2_21 : FldG RX2 21 2 1 RX2 TX2 9 := ⟨rfl, by decide, wsX2_in, g1 231 (by decide +kernel) (by decide +kernel)⟩
theorem f_RX2_28 : FldG RX2 28 2 2 RX2 TX2 9 := ⟨rfl, by decide, wsX2_in, g1 234 (by decide +kernel) (by decide +kernel)⟩
theorem f_RX2_35 : FldG RX2 35 2 3 RX2 TX2 9 := ⟨rfl, by decide, wsX2_in, g1 238 (by decide +kernel) (by decide +kernel)⟩
theorem f_RX2_39 : FldG RX2 39 2 4 RX2 TX2 9 := ⟨rfl, by decide, wsX2_in, g2 2 (by decide +kernel) (by decide +kernel)⟩
theorem f_RX2_43 : FldG RX2 43 2 5 RX2 TX2 9 := ⟨rfl, by decide, wsX2_in, g2 5 (by decide +kernel) (by decide +kernel)⟩
theorem f_RX2_48 : FldG RX2 48 2 6 RX2 TX2 9 := ⟨rfl, by decide, wsX2_in, g2 8 (by decide +kernel) (by decide +kernel)⟩
theorem f_RX2_65 : FldG RX2 65 2 7 RX2 TX2 9 := ⟨rfl, by decide, wsX2_in, g2 10 (by decide +kernel) (by decide +kernel)⟩
theorem f_RX2_65p : FldP 7 TX2 9 .int := ⟨⟨_, tyX2_ok⟩, nmX2, rfl, by decide +kernel⟩
theorem f_RX2_69 : FldG RX2 69 2 8 RX2 TX2 9 := ⟨rfl, by decide, wsX2_in, g2 13 (by decide +kernel) (by decide +kernel)⟩
theorem f_RX2_69p : FldP 8 TX2 9 .int := ⟨⟨_, tyX2_ok⟩, nmX2, rfl, by decide +kernel⟩
theorem f_RX3_9 : FldG RX3 9 3 2 RX3 TX3 19 := ⟨rfl, by decide, wsX3_in, g2 104 (by decide +kernel) (by decide +kernel)⟩
theorem f_RX3_15 : FldG RX3 15 3 3 RX3 TX3 19 := ⟨rfl, by decide, wsX3_in, g2 106 (by decide +kernel) (by decide +kernel)⟩
theorem f_RX3_18 : FldG RX3 18 3 4 RX3 TX3 19 := ⟨rfl, by decide, wsX3_in, g2 108 (by decide +kernel) (by decide +kernel)⟩
theorem f_RX3_21 : FldG RX3 21 3 5 RX3 TX3 19 := ⟨rfl, by decide, wsX3_in, g2 109 (by decide +kernel) (by decide +kernel)⟩
theorem f_RX3_24 : FldG RX3 24 3 6 RX3 TX3 19 := ⟨rfl, by decide, wsX3_in, g2 110 (by decide +kernel) (by decide +kernel)⟩
theorem f_RX3_27 : FldG RX3 27 3 7 RX3 TX3 19 := ⟨rfl, by decide, wsX3_in, g2 111 (by decide +kernel) (by decide +kernel)⟩
theorem f_RX3_30 : FldG RX3 30 3 8 RX3 TX3 19 := ⟨rfl, by decide, wsX3_in, g2 112 (by decide +kernel) (by decide +kernel)⟩
theorem f_RX3_35 : FldG RX3 35 3 9 RX3 TX3 19 := ⟨rfl, by decide, wsX3_in, g2 113 (by decide +kernel) (by decide +kernel)⟩
theorem f_RX3_38 : FldG RX3 38 3 0 RX3 TX3 19 := ⟨rfl, by decide, wsX3_in, g2 101 (by decide +kernel) (by decide +kernel)⟩
theorem f_RX3_42 : FldG RX3 42 3 1 RX3 TX3 19 := ⟨rfl, by decide, wsX3_in, g2 102 (by decide +kernel) (by decide +kernel)⟩
theorem f_RX3_51 : FldG RX3 51 3 10 RX3 TX3 19 := ⟨rfl, by decide, wsX3_in, g2 115 (by decide +kernel) (by decide +kernel)⟩
theorem f_RX3_51p : FldP 10 TX3 19 .int := ⟨⟨_, tyX3_ok⟩, nmX3, rfl, by decide +kernel⟩
theorem f_RX3_55 : FldG RX3 55 3 11 RX3 TX3 19 := ⟨rfl, by decide, wsX3_in, g2 116 (by decide +kernel) (by decide +kernel)⟩
theorem f_RX3_55p : FldP 11 TX3 19 .int := ⟨⟨_, tyX3_ok⟩, nmX3, rfl, by decide +kernel⟩
theorem f_RX3_58 : FldG RX3 58 3 12 RX3 TX3 19 := ⟨rfl, by decide, wsX3_in, g2 118 (by decide +kernel) (by decide +kernel)⟩
theorem f_RX3_58p : FldP 12 TX3 19 .int := ⟨⟨_, tyX3_ok⟩, nmX3, rfl, by decide +kernel⟩
theorem f_RX3_61 : FldG RX3 61 2 3 RX2 TX2 9 := ⟨rfl, by decide, wsX2_in, g2 0 (by decide +kernel) (by decide +kernel)⟩
theorem f_RX3_67 : FldG RX3 67 9 11 RX9 TX9 12 := ⟨rfl, by decide, wsX9_in, g1 197 (by decide +kernel) (by decide +kernel)⟩
theorem f_RX3_76 : FldG RX3 76 9 6 RX9 TX9 12 := ⟨rfl, by decide, wsX9_in, g1 182 (by decide +kernel) (by decide +kernel)⟩
theorem f_RX3_86 : FldG RX3 86 2 0 RX2 TX2 9 := ⟨rfl, by decide, wsX2_in, g1 228 (by decide +kernel) (by decide +kernel)⟩
theorem f_RX3_90 : FldG RX3 90 9 7 RX9 TX9 12 := ⟨rfl, by decide, wsX9_in, g1 185 (by decide +kernel) (by decide +kernel)⟩
theorem f_RX3_93 : FldG RX3 93 9 8 RX9 TX9 12 := ⟨rfl, by decide, wsX9_in, g1 188 (by decide +kernel) (by decide +kernel)⟩
theorem f_RX3_107 : FldG RX3 107 5 4 RX5 TX5 15 := ⟨rfl, by decide, wsX5_in, g2 45 (by decide +kernel) (by decide +kernel)⟩
theorem f_RX3_110 : FldG RX3 110 5 5 RX5 TX5 15 := ⟨rfl, by decide, wsX5_in, g2 48 (by decide +kernel) (by decide +kernel)⟩
theorem f_RX3_117 : FldG RX3 117 3 13 RX3 TX3 19 := ⟨rfl, by decide, wsX3_in, g2 120 (by decide +kernel) (by decide +kernel)⟩
theorem f_RX3_117p : FldP 13 TX3 19 .int := ⟨⟨_, tyX3_ok⟩, nmX3, rfl, by decide +kernel⟩
theorem f_RX3_120 : FldG RX3 120 3 14 RX3 TX3 19 := ⟨rfl, by decide, wsX3_in, g2 121 (by decide +kernel) (by decide +kernel)⟩
theorem f_RX3_120p : FldP 14 TX3 19 .int := ⟨⟨_, tyX3_ok⟩, nmX3, rfl, by decide +kernel⟩
theorem f_RX3_123 : FldG RX3 123 2 2 RX2 TX2 9 := ⟨rfl, by decide, wsX2_in, g1 236 (by decide +kernel) (by decide +kernel)⟩
theorem f_RX3_127 : FldG RX3 127 10 4 RX10 TX10 5 := ⟨rfl, by decide, wsX10_in, g1 149 (by decide +kernel) (by decide +kernel)⟩
theorem f_RX3_136 : FldG RX3 136 10 1 RX10 TX10 5 := ⟨rfl, by decide, wsX10_in, g1 139 (by decide +kernel) (by decide +kernel)⟩
theorem f_RX3_146 : FldG RX3 146 10 3 RX10 TX10 5 := ⟨rfl, by decide, wsX10_in, g1 145 (by decide +kernel) (by decide +kernel)⟩
theorem f_RX3_162 : FldG RX3 162 10 2 RX10 TX10 5 := ⟨rfl, by decide, wsX10_in, g1 142 (by decide +kernel) (by decide +kernel)⟩
theorem f_RX3_168 : FldG RX3 168 3 15 RX3 TX3 19 := ⟨rfl, by decide, wsX3_in, g2 124 (by decide +kernel) (by decide +kernel)⟩
theorem f_RX3_168p : FldP 15 TX3 19 .int := ⟨⟨_, tyX3_ok⟩, nmX3, rfl, by decide +kernel⟩
theorem f_RX3_171 : FldG RX3 171 3 16 RX3 TX3 19 := ⟨rfl, by decide, wsX3_in, g2 127 (by decide +kernel) (by decide +kernel)⟩
theorem f_RX3_171p : FldP 16 TX3 19 .int := ⟨⟨_, tyX3_ok⟩, nmX3, rfl, by decide +kernel⟩
theorem f_RX3_174 : FldG RX3 174 3 17 RX3 TX3 19 := ⟨rfl, by decide, wsX3_in, g2 130 (by decide +kernel) (by decide +kernel)⟩
theorem f_RX3_174p : FldP 17 TX3 19 .int := ⟨⟨_, tyX3_ok⟩, nmX3, rfl, by decide +kernel⟩
theorem f_RX3_177 : FldG RX3 177 3 18 RX3 TX3 19 := ⟨rfl, by decide, wsX3_in, g2 133 (by decide +kernel) (by decide +kernel)⟩
theorem f_RX3_177p : FldP 18 TX3 19 .int := ⟨⟨_, tyX3_ok⟩, nmX3, rfl, by decide +kernel⟩
theorem f_RX3_200 : FldG RX3 200 9 9 RX9 TX9 12 := ⟨rfl, by decide, wsX9_in, g1 191 (by decide +kernel) (by decide +kernel)⟩
theorem f_RX3_209 : FldG RX3 209 9 10 RX9 TX9 12 := ⟨rfl, by decide, wsX9_in, g1 195 (by decide +kernel) (by decide +kernel)⟩
theorem f_RX3_212 : FldG RX3 212 9 1 RX9 TX9 12 := ⟨rfl, by decide, wsX9_in, g1 172 (by decide +kernel) (by decide +kernel)⟩
theorem f_RX4_9 : FldG RX4 9 4 0 RX4 TX4 6 := ⟨rfl, by decide, wsX4_in, g1 98 (by decide +kernel) (by decide +kernel)⟩
theorem f_RX4_15 : FldG RX4 15 4 1 RX4 TX4 6 := ⟨rfl, by decide, wsX4_in, g1 101 (by decide +kernel) (by decide +kernel)⟩
theorem f_RX4_19 : FldG RX4 19 4 2 RX4 TX4 6 := ⟨rfl, by decide, wsX4_in, g1 104 (by decide +kernel) (by decide +kernel)⟩
theorem f_RX4_22 : FldG RX4 22 4 3 RX4 TX4 6 := ⟨rfl, by decide, wsX4_in, g1 107 (by decide +kernel) (by decide +kernel)⟩
theorem f_RX4_25 : FldG RX4 25 4 5 RX4 TX4 6 := ⟨rfl, by decide, wsX4_in, g1 113 (by decide +kernel) (by decide +kernel)⟩
theorem f_RX4_25p : FldP 5 TX4 6 .int := ⟨⟨_, tyX4_ok⟩, nmX4, rfl, by decide +kernel⟩
theorem f_RX4_29 : FldG RX4 29 4 4 RX4 TX4 6 := ⟨rfl, by decide, wsX4_in, g1 110 (by decide +kernel) (by decide +kernel)⟩
theorem f_RX4_29p : FldP 4 TX4 6 .int := ⟨⟨_, tyX4_ok⟩, nmX4, rfl, by decide +kernel⟩
theorem f_RX5_9 : FldG RX5 9 5 1 RX5 TX5 15 := ⟨rfl, by decide, wsX5_in, g2 41 (by decide +kernel) (by decide +kernel)⟩
theorem f_RX5_15 : FldG RX5 15 5 2 RX5 TX5 15 := ⟨rfl, by decide, wsX5_in, g2 42 (by decide +kernel) (by decide +kernel)⟩
theorem f_RX5_18 : FldG RX5 18 5 3 RX5 TX5 15 := ⟨rfl, by decide, wsX5_in, g2 43 (by decide +kernel) (by decide +kernel)⟩
theorem f_RX5_21 : FldG RX5 21 5 4 RX5 TX5 15 := ⟨rfl, by decide, wsX5_in, g2 44 (by decide +kernel) (by decide +kernel)⟩
theorem f_RX5_24 : FldG RX5 24 5 5 RX5 TX5 15 := ⟨rfl, by decide, wsX5_in, g2 47 (by decide +kernel) (by decide +kernel)⟩
theorem f_RX5_27 : FldG RX5 27 5 0 RX5 TX5 15 := ⟨rfl, by decide, wsX5_in, g2 40 (by decide +kernel) (by decide +kernel)⟩
theorem f_RX5_31 : FldG RX5 31 5 12 RX5 TX5 15 := ⟨rfl, by decide, wsX5_in, g2 61 (by decide +kernel) (by decide +kernel)⟩
theorem f_RX5_31p : FldP 12 TX5 15 .boolean := ⟨⟨_, tyX5_ok⟩, nmX5, rfl, by decide +kernel⟩
theorem f_RX5_46 : FldG RX5 46 5 8 RX5 TX5 15 := ⟨rfl, by decide, wsX5_in, g2 52 (by decide +kernel) (by decide +kernel)⟩
theorem f_RX5_46p : FldP 8 TX5 15 .int := ⟨⟨_, tyX5_ok⟩, nmX5, rfl, by decide +kernel⟩
theorem f_RX5_50 : FldG RX5 50 5 6 RX5 TX5 15 := ⟨rfl, by decide, wsX5_in, g2 50 (by decide +kernel) (by decide +kernel)⟩
theorem f_RX5_50p : FldP 6 TX5 15 .int := ⟨⟨_, tyX5_ok⟩, nmX5, rfl, by decide +kernel⟩
theorem f_RX5_53 : FldG RX5 53 5 7 RX5 TX5 15 := ⟨rfl, by decide, wsX5_in, g2 51 (by decide +kernel) (by decide +kernel)⟩
theorem f_RX5_53p : FldP 7 TX5 15 .int := ⟨⟨_, tyX5_ok⟩, nmX5, rfl, by decide +kernel⟩
theorem f_RX5_63 : FldG RX5 63 5 10 RX5 TX5 15 := ⟨rfl, by decide, wsX5_in, g2 57 (by decide +kernel) (by decide +kernel)⟩
theorem f_RX5_63p : FldP 10 TX5 15 .int := ⟨⟨_, tyX5_ok⟩, nmX5, rfl, by decide +kernel⟩
theorem f_RX5_66 : FldG RX5 66 5 13 RX5 TX5 15 := ⟨rfl, by decide, wsX5_in, g2 62 (by decide +kernel) (by decide +kernel)⟩
theorem f_RX5_66p : FldP 13 TX5 15 .int := ⟨⟨_, tyX5_ok⟩, nmX5, rfl, by decide +kernel⟩
theorem f_RX5_69 : FldG RX5 69 5 9 RX5 TX5 15 := ⟨rfl, by decide, wsX5_in, g2 55 (by decide +kernel) (by decide +kernel)⟩
theorem f_RX5_69p : FldP 9 TX5 15 .int := ⟨⟨_, tyX5_ok⟩, nmX5, rfl, by decide +kernel⟩
theorem f_RX5_72 : FldG RX5 72 5 11 RX5 TX5 15 := ⟨rfl, by decide, wsX5_in, g2 59 (by decide +kernel) (by decide +kernel)⟩
theorem f_RX5_72p : FldP 11 TX5 15 .int := ⟨⟨_, tyX5_ok⟩, nmX5, rfl, by decide +kernel⟩
theorem f_RX5_75 : FldG RX5 75 5 14 RX5 TX5 15 := ⟨rfl, by decide, wsX5_in, g2 63 (by decide +kernel) (by decide +kernel)⟩
theorem f_RX5_75p : FldP 14 TX5 15 .int := ⟨⟨_, tyX5_ok⟩, nmX5, rfl, by decide +kernel⟩
theorem f_RX5_96 : FldG RX5 96 2 1 RX2 TX2 9 := ⟨rfl, by decide, wsX2_in, g1 233 (by decide +kernel) (by decide +kernel)⟩
theorem f_RX5_102 : FldG RX5 102 4 4 RX4 TX4 6 := ⟨rfl, by decide, wsX4_in, g1 112 (by decide +kernel) (by decide +kernel)⟩
theorem f_RX5_107 : FldG RX5 107 2 0 RX2 TX2 9 := ⟨rfl, by decide, wsX2_in, g1 230 (by decide +kernel) (by decide +kernel)⟩
theorem f_RX5_111 : FldG RX5 111 4 0 RX4 TX4 6 := ⟨rfl, by decide, wsX4_in, g1 100 (by decide +kernel) (by decide +kernel)⟩
theorem f_RX5_114 : FldG RX5 114 4 1 RX4 TX4 6 := ⟨rfl, by decide, wsX4_in, g1 103 (by decide +kernel) (by decide +kernel)⟩
theorem f_RX5_124 : FldG RX5 124 4 3 RX4 TX4 6 := ⟨rfl, by decide, wsX4_in, g1 109 (by decide +kernel) (by decide +kernel)⟩
theorem f_RX5_133 : FldG RX5 133 4 2 RX4 TX4 6 := ⟨rfl, by decide, wsX4_in, g1 106 (by decide +kernel) (by decide +kernel)⟩
theorem f_RX5_136 : FldG RX5 136 4 5 RX4 TX4 6 := ⟨rfl, by decide, wsX4_in, g1 115 (by decide +kernel) (by decide +kernel)⟩
theorem f_RX6_9 : FldG RX6 9 6 0 RX6 TX6 9 := ⟨rfl, by decide, wsX6_in, g2 238 (by decide +kernel) (by decide +kernel)⟩
theorem f_RX6_15 : FldG RX6 15 6 1 RX6 TX6 9 := ⟨rfl, by decide, wsX6_in, g2 239 (by decide +kernel) (by decide +kernel)⟩
theorem f_RX6_19 : FldG RX6 19 6 2 RX6 TX6 9 := ⟨rfl, by decide, wsX6_in, g3 0 (by decide +kernel) (by decide +kernel)⟩
theorem f_RX6_22 : FldG RX6 22 6 3 RX6 TX6 9 := ⟨rfl, by decide, wsX6_in, g3 1 (by decide +kernel) (by decide +kernel)⟩
theorem f_RX6_25 : FldG RX6 25 6 8 RX6 TX6 9 := ⟨rfl, by decide, wsX6_in, g3 9 (by decide +kernel) (by decide +kernel)⟩
theorem f_RX6_25p : FldP 8 TX6 9 .int := ⟨⟨_, tyX6_ok⟩, nmX6, rfl, by decide +kernel⟩
theorem f_RX6_29 : FldG RX6 29 6 4 RX6 TX6 9 := ⟨rfl, by decide, wsX6_in, g3 4 (by decide +kernel) (by decide +kernel)⟩
theorem f_RX6_29p : FldP 4 TX6 9 .int := ⟨⟨_, tyX6_ok⟩, nmX6, rfl, by decide +kernel⟩
theorem f_RX6_35 : FldG RX6 35 6 6 RX6 TX6 9 := ⟨rfl, by decide, wsX6_in, g3 6 (by decide +kernel) (by decide +kernel)⟩
theorem f_RX6_35p : FldP 6 TX6 9 .int := ⟨⟨_, tyX6_ok⟩, nmX6, rfl, by decide +kernel⟩
theorem f_RX6_38 : FldG RX6 38 6 7 RX6 TX6 9 := ⟨rfl, by decide, wsX6_in, g3 7 (by decide +kernel) (by decide +kernel)⟩
theorem f_RX6_38p : FldP 7 TX6 9 .int := ⟨⟨_, tyX6_ok⟩, nmX6, rfl, by decide +kernel⟩
theorem f_RX6_52 : FldG RX6 52 6 5 RX6 TX6 9 := ⟨rfl, by decide, wsX6_in, g3 5 (by decide +kernel) (by decide +kernel)⟩
theorem f_RX6_52p : FldP 5 TX6 9 .int := ⟨⟨_, tyX6_ok⟩, nmX6, rfl, by decide +kernel⟩
theorem f_RX7_11 : FldG RX7 11 7 2 RX7 TX7 8 := ⟨rfl, by decide, wsX7_in, g2 206 (by decide +kernel) (by decide +kernel)⟩
theorem f_RX7_15 : FldG RX7 15 7 3 RX7 TX7 8 := ⟨rfl, by decide, wsX7_in, g2 207 (by decide +kernel) (by decide +kernel)⟩
theorem f_RX7_18 : FldG RX7 18 7 4 RX7 TX7 8 := ⟨rfl, by decide, wsX7_in, g2 208 (by decide +kernel) (by decide +kernel)⟩
theorem f_RX7_22 : FldG RX7 22 7 0 RX7 TX7 8 := ⟨rfl, by decide, wsX7_in, g2 204 (by decide +kernel) (by decide +kernel)⟩
theorem f_RX7_26 : FldG RX7 26 7 1 RX7 TX7 8 := ⟨rfl, by decide, wsX7_in, g2 205 (by decide +kernel) (by decide +kernel)⟩
theorem f_RX7_36 : FldG RX7 36 7 5 RX7 TX7 8 := ⟨rfl, by decide, wsX7_in, g2 209 (by decide +kernel) (by decide +kernel)⟩
theorem f_RX7_36p : FldP 5 TX7 8 .int := ⟨⟨_, tyX7_ok⟩, nmX7, rfl, by decide +kernel⟩
theorem f_RX7_40 : FldG RX7 40 2 3 RX2 TX2 9 := ⟨rfl, by decide, wsX2_in, g1 239 (by decide +kernel) (by decide +kernel)⟩
theorem f_RX7_46 : FldG RX7 46 9 11 RX9 TX9 12 := ⟨rfl, by decide, wsX9_in, g1 196 (by decide +kernel) (by decide +kernel)⟩
theorem f_RX7_51 : FldG RX7 51 3 2 RX3 TX3 19 := ⟨rfl, by decide, wsX3_in, g2 105 (by decide +kernel) (by decide +kernel)⟩
theorem f_RX7_54 : FldG RX7 54 3 3 RX3 TX3 19 := ⟨rfl, by decide, wsX3_in, g2 107 (by decide +kernel) (by decide +kernel)⟩
theorem f_RX7_71 : FldG RX7 71 7 6 RX7 TX7 8 := ⟨rfl, by decide, wsX7_in, g2 210 (by decide +kernel) (by decide +kernel)⟩
theorem f_RX7_71p : FldP 6 TX7 8 .int := ⟨⟨_, tyX7_ok⟩, nmX7, rfl, by decide +kernel⟩
theorem f_RX7_74 : FldG RX7 74 7 7 RX7 TX7 8 := ⟨rfl, by decide, wsX7_in, g2 212 (by decide +kernel) (by decide +kernel)⟩
theorem f_RX7_74p : FldP 7 TX7 8 .int := ⟨⟨_, tyX7_ok⟩, nmX7, rfl, by decide +kernel⟩
theorem f_RX8_9 : FldG RX8 9 8 0 RX8 TX8 10 := ⟨rfl, by decide, wsX8_in, g1 49 (by decide +kernel) (by decide +kernel)⟩
theorem f_RX8_15 : FldG RX8 15 8 1 RX8 TX8 10 := ⟨rfl, by decide, wsX8_in, g1 51 (by decide +kernel) (by decide +kernel)⟩
theorem f_RX8_19 : FldG RX8 19 8 2 RX8 TX8 10 := ⟨rfl, by decide, wsX8_in, g1 53 (by decide +kernel) (by decide +kernel)⟩
theorem f_RX8_22 : FldG RX8 22 8 3 RX8 TX8 10 := ⟨rfl, by decide, wsX8_in, g1 55 (by decide +kernel) (by decide +kernel)⟩
theorem f_RX8_25 : FldG RX8 25 8 4 RX8 TX8 10 := ⟨rfl, by decide, wsX8_in, g1 57 (by decide +kernel) (by decide +kernel)⟩
theorem f_RX8_28 : FldG RX8 28 8 6 RX8 TX8 10 := ⟨rfl, by decide, wsX8_in, g1 61 (by decide +kernel) (by decide +kernel)⟩
theorem f_RX8_28p : FldP 6 TX8 10 .int := ⟨⟨_, tyX8_ok⟩, nmX8, rfl, by decide +kernel⟩
theorem f_RX8_32 : FldG RX8 32 8 5 RX8 TX8 10 := ⟨rfl, by decide, wsX8_in, g1 59 (by decide +kernel) (by decide +kernel)⟩
theorem f_RX8_32p : FldP 5 TX8 10 .int := ⟨⟨_, tyX8_ok⟩, nmX8, rfl, by decide +kernel⟩
theorem f_RX8_35 : FldG RX8 35 8 7 RX8 TX8 10 := ⟨rfl, by decide, wsX8_in, g1 63 (by decide +kernel) (by decide +kernel)⟩
theorem f_RX8_35p : FldP 7 TX8 10 .int := ⟨⟨_, tyX8_ok⟩, nmX8, rfl, by decide +kernel⟩
theorem f_RX8_38 : FldG RX8 38 8 8 RX8 TX8 10 := ⟨rfl, by decide, wsX8_in, g1 65 (by decide +kernel) (by decide +kernel)⟩
theorem f_RX8_38p : FldP 8 TX8 10 .int := ⟨⟨_, tyX8_ok⟩, nmX8, rfl, by decide +kernel⟩
theorem f_RX8_41 : FldG RX8 41 8 9 RX8 TX8 10 := ⟨rfl, by decide, wsX8_in, g1 67 (by decide +kernel) (by decide +kernel)⟩
theorem f_RX8_41p : FldP 9 TX8 10 .int := ⟨⟨_, tyX8_ok⟩, nmX8, rfl, by decide +kernel⟩
theorem f_RX9_9 : FldG RX9 9 9 0 RX9 TX9 12 := ⟨rfl, by decide, wsX9_in, g1 168 (by decide +kernel) (by decide +kernel)⟩
theorem f_RX9_15 : FldG RX9 15 9 1 RX9 TX9 12 := ⟨rfl, by decide, wsX9_in, g1 170 (by decide +kernel) (by decide +kernel)⟩
theorem f_RX9_18 : FldG RX9 18 9 2 RX9 TX9 12 := ⟨rfl, by decide, wsX9_in, g1 173 (by decide +kernel) (by decide +kernel)⟩
theorem f_RX9_21 : FldG RX9 21 9 3 RX9 TX9 12 := ⟨rfl, by decide, wsX9_in, g1 175 (by decide +kernel) (by decide +kernel)⟩
theorem f_RX9_24 : FldG RX9 24 9 4 RX9 TX9 12 := ⟨rfl, by decide, wsX9_in, g1 177 (by decide +kernel) (by decide +kernel)⟩
theorem f_RX9_27 : FldG RX9 27 9 6 RX9 TX9 12 := ⟨rfl, by decide, wsX9_in, g1 181 (by decide +kernel) (by decide +kernel)⟩
theorem f_RX9_30 : FldG RX9 30 9 7 RX9 TX9 12 := ⟨rfl, by decide, wsX9_in, g1 184 (by decide +kernel) (by decide +kernel)⟩
theorem f_RX9_33 : FldG RX9 33 9 8 RX9 TX9 12 := ⟨rfl, by decide, wsX9_in, g1 187 (by decide +kernel) (by decide +kernel)⟩
theorem f_RX9_37 : FldG RX9 37 9 9 RX9 TX9 12 := ⟨rfl, by decide, wsX9_in, g1 190 (by decide +kernel) (by decide +kernel)⟩
theorem f_RX9_40 : FldG RX9 40 9 10 RX9 TX9 12 := ⟨rfl, by decide, wsX9_in, g1 193 (by decide +kernel) (by decide +kernel)⟩
theorem f_RX9_43 : FldG RX9 43 9 5 RX9 TX9 12 := ⟨rfl, by decide, wsX9_in, g1 179 (by decide +kernel) (by decide +kernel)⟩
theorem f_RX9_43p : FldP 5 TX9 12 .int := ⟨⟨_, tyX9_ok⟩, nmX9, rfl, by decide +kernel⟩
theorem f_RX9_47 : FldG RX9 47 9 11 RX9 TX9 12 := ⟨rfl, by decide, wsX9_in, g1 198 (by decide +kernel) (by decide +kernel)⟩
theorem f_RX9_47p : FldP 11 TX9 12 .int := ⟨⟨_, tyX9_ok⟩, nmX9, rfl, by decide +kernel⟩
theorem f_RX10_9 : FldG RX10 9 10 0 RX10 TX10 5 := ⟨rfl, by decide, wsX10_in, g1 135 (by decide +kernel) (by decide +kernel)⟩
theorem f_RX10_15 : FldG RX10 15 10 1 RX10 TX10 5 := ⟨rfl, by decide, wsX10_in, g1 138 (by decide +kernel) (by decide +kernel)⟩
theorem f_RX10_19 : FldG RX10 19 10 2 RX10 TX10 5 := ⟨rfl, by decide, wsX10_in, g1 141 (by decide +kernel) (by decide +kernel)⟩
theorem f_RX10_22 : FldG RX10 22 10 3 RX10 TX10 5 := ⟨rfl, by decide, wsX10_in, g1 144 (by decide +kernel) (by decide +kernel)⟩
theorem f_RX10_25 : FldG RX10 25 10 4 RX10 TX10 5 := ⟨rfl, by decide, wsX10_in, g1 148 (by decide +kernel) (by decide +kernel)⟩
theorem f_RX10_25p : FldP 4 TX10 5 .int := ⟨⟨_, tyX10_ok⟩, nmX10, rfl, by decide +kernel⟩
theorem f_RX12_3 : FldG RX12 3 12 0 RX12 TX12 28 := ⟨rfl, by decide, wsX12_in, g7 116 (by decide +kernel) (by decide +kernel)⟩
theorem f_RX12_3p : FldP 0 TX12 28 .int := ⟨⟨_, tyX12_ok⟩, nmX12, rfl, by decide +kernel⟩
theorem f_RX12_13 : FldG RX12 13 12 1 RX12 TX12 28 := ⟨rfl, by decide, wsX12_in, g7 117 (by decide +kernel) (by decide +kernel)⟩
theorem f_RX12_17 : FldG RX12 17 12 2 RX12 TX12 28 := ⟨rfl, by decide, wsX12_in, g7 118 (by decide +kernel) (by decide +kernel)⟩
theorem f_RX12_20 : FldG RX12 20 12 4 RX12 TX12 28 := ⟨rfl, by decide, wsX12_in, g7 120 (by decide +kernel) (by decide +kernel)⟩
theorem f_RX12_23 : FldG RX12 23 12 5 RX12 TX12 28 := ⟨rfl, by decide, wsX12_in, g7 121 (by decide +kernel) (by decide +kernel)⟩
theorem f_RX12_26 : FldG RX12 26 12 6 RX12 TX12 28 := ⟨rfl, by decide, wsX12_in, g7 122 (by decide +kernel) (by decide +kernel)⟩
theorem f_RX12_29 : FldG RX12 29 12 7 RX12 TX12 28 := ⟨rfl, by decide, wsX12_in, g7 123 (by decide +kernel) (by decide +kernel)⟩
theorem f_RX12_32 : FldG RX12 32 12 12 RX12 TX12 28 := ⟨rfl, by decide, wsX12_in, g7 128 (by decide +kernel) (by decide +kernel)⟩
theorem f_RX12_35 : FldG RX12 35 12 13 RX12 TX12 28 := ⟨rfl, by decide, wsX12_in, g7 129 (by decide +kernel) (by decide +kernel)⟩
theorem f_RX12_38 : FldG RX12 38 12 15 RX12 TX12 28 := ⟨rfl, by decide, wsX12_in, g7 131 (by decide +kernel) (by decide +kernel)⟩
theorem f_RX12_41 : FldG RX12 41 12 18 RX12 TX12 28 := ⟨rfl, by decide, wsX12_in, g7 134 (by decide +kernel) (by decide +kernel)⟩
theorem f_RX12_45 : FldG RX12 45 12 24 RX12 TX12 28 := ⟨rfl, by decide, wsX12_in, g7 140 (by decide +kernel) (by decide +kernel)⟩
theorem f_RX12_45p : FldP 24 TX12 28 .int := ⟨⟨_, tyX12_ok⟩, nmX12, rfl, by decide +kernel⟩
theorem f_RX12_48 : FldG RX12 48 12 25 RX12 TX12 28 := ⟨rfl, by decide, wsX12_in, g7 141 (by decide +kernel) (by decide +kernel)⟩
theorem f_RX12_51 : FldG RX12 51 12 27 RX12 TX12 28 := ⟨rfl, by decide, wsX12_in, g7 143 (by decide +kernel) (by decide +kernel)⟩
theorem f_RX12_54 : FldG RX12 54 12 3 RX12 TX12 28 := ⟨rfl, by decide, wsX12_in, g7 119 (by decide +kernel) (by decide +kernel)⟩
theorem f_RX12_54p : FldP 3 TX12 28 .boolean := ⟨⟨_, tyX12_ok⟩, nmX12, rfl, by decide +kernel⟩
theorem f_RX12_203 : FldG RX12 203 12 8 RX12 TX12 28 := ⟨rfl, by decide, wsX12_in, g7 124 (by decide +kernel) (by decide +kernel)⟩
theorem f_RX12_203p : FldP 8 TX12 28 .int := ⟨⟨_, tyX12_ok⟩, nmX12, rfl, by decide +kernel⟩
theorem f_RX12_206 : FldG RX12 206 12 9 RX12 TX12 28 := ⟨rfl, by decide, wsX12_in, g7 125 (by decide +kernel) (by decide +kernel)⟩
theorem f_RX12_206p : FldP 9 TX12 28 .int := ⟨⟨_, tyX12_ok⟩, nmX12, rfl, by decide +kernel⟩
theorem f_RX12_209 : FldG RX12 209 12 10 RX12 TX12 28 := ⟨rfl, by decide, wsX12_in, g7 126 (by decide +kernel) (by decide +kernel)⟩
theorem f_RX12_209p : FldP 10 TX12 28 .int := ⟨⟨_, tyX12_ok⟩, nmX12, rfl, by decide +kernel⟩
theorem f_RX12_212 : FldG RX12 212 12 11 RX12 TX12 28 := ⟨rfl, by decide, wsX12_in, g7 127 (by decide +kernel) (by decide +kernel)⟩
theorem f_RX12_212p : FldP 11 TX12 28 .int := ⟨⟨_, tyX12_ok⟩, nmX12, rfl, by decide +kernel⟩
theorem f_RX12_230 : FldG RX12 230 12 14 RX12 TX12 28 := ⟨rfl, by decide, wsX12_in, g7 130 (by decide +kernel) (by decide +kernel)⟩
theorem f_RX12_230p : FldP 14 TX12 28 .int := ⟨⟨_, tyX12_ok⟩, nmX12, rfl, by decide +kernel⟩
theorem f_RX12_254 : FldG RX12 254 12 16 RX12 TX12 28 := ⟨rfl, by decide, wsX12_in, g7 132 (by decide +kernel) (by decide +kernel)⟩
theorem f_RX12_254p : FldP 16 TX12 28 .int := ⟨⟨_, tyX12_ok⟩, nmX12, rfl, by decide +kernel⟩
theorem f_RX12_257 : FldG RX12 257 12 17 RX12 TX12 28 := ⟨rfl, by decide, wsX12_in, g7 133 (by decide +kernel) (by decide +kernel)⟩
theorem f_RX12_257p : FldP 17 TX12 28 .int := ⟨⟨_, tyX12_ok⟩, nmX12, rfl, by decide +kernel⟩
theorem f_RX12_272 : FldG RX12 272 12 19 RX12 TX12 28 := ⟨rfl, by decide, wsX12_in, g7 135 (by decide +kernel) (by decide +kernel)⟩
theorem f_RX12_272p : FldP 19 TX12 28 .int := ⟨⟨_, tyX12_ok⟩, nmX12, rfl, by decide +kernel⟩
theorem f_RX12_275 : FldG RX12 275 12 21 RX12 TX12 28 := ⟨rfl, by decide, wsX12_in, g7 137 (by decide +kernel) (by decide +kernel)⟩
theorem f_RX12_275p : FldP 21 TX12 28 .int := ⟨⟨_, tyX12_ok⟩, nmX12, rfl, by decide +kernel⟩
theorem f_RX12_278 : FldG RX12 278 12 20 RX12 TX12 28 := ⟨rfl, by decide, wsX12_in, g7 136 (by decide +kernel) (by decide +kernel)⟩
theorem f_RX12_278p : FldP 20 TX12 28 .int := ⟨⟨_, tyX12_ok⟩, nmX12, rfl, by decide +kernel⟩
theorem f_RX12_281 : FldG RX12 281 12 26 RX12 TX12 28 := ⟨rfl, by decide, wsX12_in, g7 142 (by decide +kernel) (by decide +kernel)⟩
theorem f_RX12_281p : FldP 26 TX12 28 .int := ⟨⟨_, tyX12_ok⟩, nmX12, rfl, by decide +kernel⟩
theorem f_RX12_284 : FldG RX12 284 12 23 RX12 TX12 28 := ⟨rfl, by decide, wsX12_in, g7 139 (by decide +kernel) (by decide +kernel)⟩
theorem f_RX12_284p : FldP 23 TX12 28 .int := ⟨⟨_, tyX12_ok⟩, nmX12, rfl, by decide +kernel⟩
theorem f_RX12_290 : FldG RX12 290 12 22 RX12 TX12 28 := ⟨rfl, by decide, wsX12_in, g7 138 (by decide +kernel) (by decide +kernel)⟩
theorem f_RX12_290p : FldP 22 TX12 28 .int := ⟨⟨_, tyX12_ok⟩, nmX12, rfl, by decide +kernel⟩
theorem kI_m8 : Int32.ofInt (-8) = (-8 : Int32) := by decide
theorem kI_m1 : Int32.ofInt (-1) = (-1 : Int32) := by decide
theorem kI_0 : Int32.ofInt (0) = (0 : Int32) := by decide
theorem kI_1 : Int32.ofInt (1) = (1 : Int32) := by decide
theorem kI_2 : Int32.ofInt (2) = (2 : Int32) := by decide
theorem kI_3 : Int32.ofInt (3) = (3 : Int32) := by decide
theorem kI_4 : Int32.ofInt (4) = (4 : Int32) := by decide
theorem kI_5 : Int32.ofInt (5) = (5 : Int32) := by decide
theorem kI_8 : Int32.ofInt (8) = (8 : Int32) := by decide
theorem kI_16 : Int32.ofInt (16) = (16 : Int32) := by decide
theorem kB_m50 : (Int8.ofInt (-50)).toInt32 = (-50 : Int32) := by decide
theorem kB_m39 : (Int8.ofInt (-39)).toInt32 = (-39 : Int32) := by decide
theorem kB_m30 : (Int8.ofInt (-30)).toInt32 = (-30 : Int32) := by decide
theorem kB_m9 : (Int8.ofInt (-9)).toInt32 = (-9 : Int32) := by decide
theorem kB_6 : (Int8.ofInt (6)).toInt32 = (6 : Int32) := by decide
theorem kB_7 : (Int8.ofInt (7)).toInt32 = (7 : Int32) := by decide
theorem kB_8 : (Int8.ofInt (8)).toInt32 = (8 : Int32) := by decide
theorem kB_9 : (Int8.ofInt (9)).toInt32 = (9 : Int32) := by decide
theorem kB_10 : (Int8.ofInt (10)).toInt32 = (10 : Int32) := by decide
theorem kB_11 : (Int8.ofInt (11)).toInt32 = (11 : Int32) := by decide
theorem kB_12 : (Int8.ofInt (12)).toInt32 = (12 : Int32) := by decide
theorem kB_13 : (Int8.ofInt (13)).toInt32 = (13 : Int32) := by decide
theorem kB_14 : (Int8.ofInt (14)).toInt32 = (14 : Int32) := by decide
theorem kB_15 : (Int8.ofInt (15)).toInt32 = (15 : Int32) := by decide
theorem kB_16 : (Int8.ofInt (16)).toInt32 = (16 : Int32) := by decide
theorem kB_17 : (Int8.ofInt (17)).toInt32 = (17 : Int32) := by decide
theorem kB_19 : (Int8.ofInt (19)).toInt32 = (19 : Int32) := by decide
theorem kB_20 : (Int8.ofInt (20)).toInt32 = (20 : Int32) := by decide
theorem kB_24 : (Int8.ofInt (24)).toInt32 = (24 : Int32) := by decide
theorem kB_30 : (Int8.ofInt (30)).toInt32 = (30 : Int32) := by decide
theorem kB_31 : (Int8.ofInt (31)).toInt32 = (31 : Int32) := by decide
theorem kB_32 : (Int8.ofInt (32)).toInt32 = (32 : Int32) := by decide
theorem kB_36 : (Int8.ofInt (36)).toInt32 = (36 : Int32) := by decide
theorem kB_40 : (Int8.ofInt (40)).toInt32 = (40 : Int32) := by decide
theorem kB_41 : (Int8.ofInt (41)).toInt32 = (41 : Int32) := by decide
theorem kB_43 : (Int8.ofInt (43)).toInt32 = (43 : Int32) := by decide
theorem kB_45 : (Int8.ofInt (45)).toInt32 = (45 : Int32) := by decide
theorem kB_48 : (Int8.ofInt (48)).toInt32 = (48 : Int32) := by decide
theorem kB_50 : (Int8.ofInt (50)).toInt32 = (50 : Int32) := by decide
theorem kB_52 : (Int8.ofInt (52)).toInt32 = (52 : Int32) := by decide
theorem kB_57 : (Int8.ofInt (57)).toInt32 = (57 : Int32) := by decide
theorem kB_60 : (Int8.ofInt (60)).toInt32 = (60 : Int32) := by decide
theorem kB_62 : (Int8.ofInt (62)).toInt32 = (62 : Int32) := by decide
theorem kB_63 : (Int8.ofInt (63)).toInt32 = (63 : Int32) := by decide
theorem kB_64 : (Int8.ofInt (64)).toInt32 = (64 : Int32) := by decide
theorem kB_90 : (Int8.ofInt (90)).toInt32 = (90 : Int32) := by decide
theorem kB_92 : (Int8.ofInt (92)).toInt32 = (92 : Int32) := by decide
theorem kB_97 : (Int8.ofInt (97)).toInt32 = (97 : Int32) := by decide
theorem kB_99 : (Int8.ofInt (99)).toInt32 = (99 : Int32) := by decide
theorem kB_100 : (Int8.ofInt (100)).toInt32 = (100 : Int32) := by decide
theorem kB_101 : (Int8.ofInt (101)).toInt32 = (101 : Int32) := by decide
theorem kB_122 : (Int8.ofInt (122)).toInt32 = (122 : Int32) := by decide
theorem kB_127 : (Int8.ofInt (127)).toInt32 = (127 : Int32) := by decide
theorem kS_176 : (Int16.ofInt (176)).toInt32 = (176 : Int32) := by decide
theorem kS_191 : (Int16.ofInt (191)).toInt32 = (191 : Int32) := by decide
theorem kS_202 : (Int16.ofInt (202)).toInt32 = (202 : Int32) := by decide
theorem kS_255 : (Int16.ofInt (255)).toInt32 = (255 : Int32) := by decide
theorem kS_256 : (Int16.ofInt (256)).toInt32 = (256 : Int32) := by decide
theorem kS_311 : (Int16.ofInt (311)).toInt32 = (311 : Int32) := by decide
theorem kS_359 : (Int16.ofInt (359)).toInt32 = (359 : Int32) := by decide
theorem kS_400 : (Int16.ofInt (400)).toInt32 = (400 : Int32) := by decide
theorem kS_401 : (Int16.ofInt (401)).toInt32 = (401 : Int32) := by decide
theorem kS_500 : (Int16.ofInt (500)).toInt32 = (500 : Int32) := by decide
theorem kS_801 : (Int16.ofInt (801)).toInt32 = (801 : Int32) := by decide
theorem kS_999 : (Int16.ofInt (999)).toInt32 = (999 : Int32) := by decide
theorem kS_1000 : (Int16.ofInt (1000)).toInt32 = (1000 : Int32) := by decide
theorem kS_1024 : (Int16.ofInt (1024)).toInt32 = (1024 : Int32) := by decide
theorem kS_1087 : (Int16.ofInt (1087)).toInt32 = (1087 : Int32) := by decide
theorem kS_1200 : (Int16.ofInt (1200)).toInt32 = (1200 : Int32) := by decide
theorem kS_1710 : (Int16.ofInt (1710)).toInt32 = (1710 : Int32) := by decide
theorem kS_5165 : (Int16.ofInt (5165)).toInt32 = (5165 : Int32) := by decide
theorem kS_5966 : (Int16.ofInt (5966)).toInt32 = (5966 : Int32) := by decide
theorem kS_9999 : (Int16.ofInt (9999)).toInt32 = (9999 : Int32) := by decide
theorem kS_10000 : (Int16.ofInt (10000)).toInt32 = (10000 : Int32) := by decide
