theorem fs_0_9 : mi_fs 0 9 0 0 false := ⟨_, rfl, by decide, mi_in 175 (by decide +kernel) rfl⟩
theorem fs_0_15 : mi_fs 0 15 0 1 false := ⟨_, rfl, by decide, mi_in 176 (by decide +kernel) rfl⟩
theorem fs_0_18 : mi_fs 0 18 0 2 false := ⟨_, rfl, by decide, mi_in 177 (by decide +kernel) rfl⟩
theorem fs_0_21 : mi_fs 0 21 0 3 false := ⟨_, rfl, by decide, mi_in 178 (by decide +kernel) rfl⟩
theorem fs_0_24 : mi_fs 0 24 0 4 false := ⟨_, rfl, by decide, mi_in 179 (by decide +kernel) rfl⟩
theorem fs_0_32 : mi_fs 0 32 0 5 false := ⟨_, rfl, by decide, mi_in 180 (by decide +kernel) rfl⟩
theorem fs_0_36 : mi_fs 0 36 0 6 false := ⟨_, rfl, by decide, mi_in 181 (by decide +kernel) rfl⟩
theorem fs_0_40 : mi_fs 0 40 0 7 false := ⟨_, rfl, by decide, mi_in 182 (by decide +kernel) rfl⟩
theorem fs_0_43 : mi_fs 0 43 4 3 true := ⟨_, rfl, by decide, ⟨_, List.mem_of_getElem? (i := 126) (by decide +kernel : _ = some (Cond.fieldLinkNest (mi_cn 0) 43 "PlaneDesk$Net" "vertices" "I" "PlaneDesk"))⟩⟩
theorem fs_0_56 : mi_fs 0 56 4 4 true := ⟨_, rfl, by decide, ⟨_, List.mem_of_getElem? (i := 134) (by decide +kernel : _ = some (Cond.fieldLinkNest (mi_cn 0) 56 "PlaneDesk$Net" "edges" "I" "PlaneDesk"))⟩⟩
theorem fs_0_111 : mi_fs 0 111 0 8 false := ⟨_, rfl, by decide, mi_in 186 (by decide +kernel) rfl⟩
theorem fs_1_9 : mi_fs 1 9 1 0 false := ⟨_, rfl, by decide, mi_in 393 (by decide +kernel) rfl⟩
theorem fs_1_20 : mi_fs 1 20 1 1 false := ⟨_, rfl, by decide, mi_in 395 (by decide +kernel) rfl⟩
theorem fs_1_57 : mi_fs 1 57 4 3 true := ⟨_, rfl, by decide, ⟨_, List.mem_of_getElem? (i := 125) (by decide +kernel : _ = some (Cond.fieldLinkNest (mi_cn 1) 57 "PlaneDesk$Net" "vertices" "I" "PlaneDesk"))⟩⟩
theorem fs_2_9 : mi_fs 2 9 2 0 false := ⟨_, rfl, by decide, mi_in 360 (by decide +kernel) rfl⟩
theorem fs_2_15 : mi_fs 2 15 2 1 false := ⟨_, rfl, by decide, mi_in 362 (by decide +kernel) rfl⟩
theorem fs_2_18 : mi_fs 2 18 2 2 false := ⟨_, rfl, by decide, mi_in 364 (by decide +kernel) rfl⟩
theorem fs_2_26 : mi_fs 2 26 2 3 false := ⟨_, rfl, by decide, mi_in 365 (by decide +kernel) rfl⟩
theorem fs_2_30 : mi_fs 2 30 2 4 false := ⟨_, rfl, by decide, mi_in 367 (by decide +kernel) rfl⟩
theorem fs_2_33 : mi_fs 2 33 2 5 false := ⟨_, rfl, by decide, mi_in 368 (by decide +kernel) rfl⟩
theorem fs_2_36 : mi_fs 2 36 2 6 false := ⟨_, rfl, by decide, mi_in 369 (by decide +kernel) rfl⟩
theorem fs_2_83 : mi_fs 2 83 4 3 true := ⟨_, rfl, by decide, ⟨_, List.mem_of_getElem? (i := 127) (by decide +kernel : _ = some (Cond.fieldLinkNest (mi_cn 2) 83 "PlaneDesk$Net" "vertices" "I" "PlaneDesk"))⟩⟩
theorem fs_3_12 : mi_fs 3 12 3 0 false := ⟨_, rfl, by decide, mi_in 266 (by decide +kernel) rfl⟩
theorem fs_3_21 : mi_fs 3 21 3 1 false := ⟨_, rfl, by decide, mi_in 268 (by decide +kernel) rfl⟩
theorem fs_3_28 : mi_fs 3 28 3 2 false := ⟨_, rfl, by decide, mi_in 270 (by decide +kernel) rfl⟩
theorem fs_3_32 : mi_fs 3 32 3 3 false := ⟨_, rfl, by decide, mi_in 271 (by decide +kernel) rfl⟩
theorem fs_3_38 : mi_fs 3 38 3 4 false := ⟨_, rfl, by decide, mi_in 272 (by decide +kernel) rfl⟩
theorem fs_3_45 : mi_fs 3 45 3 5 false := ⟨_, rfl, by decide, mi_in 273 (by decide +kernel) rfl⟩
theorem fs_3_49 : mi_fs 3 49 3 6 false := ⟨_, rfl, by decide, mi_in 274 (by decide +kernel) rfl⟩
theorem fs_3_60 : mi_fs 3 60 0 8 true := ⟨_, rfl, by decide, ⟨_, List.mem_of_getElem? (i := 184) (by decide +kernel : _ = some (Cond.fieldLinkNest (mi_cn 3) 60 "PlaneDesk$Blocks" "count" "I" "PlaneDesk"))⟩⟩
theorem fs_3_68 : mi_fs 3 68 4 4 true := ⟨_, rfl, by decide, ⟨_, List.mem_of_getElem? (i := 132) (by decide +kernel : _ = some (Cond.fieldLinkNest (mi_cn 3) 68 "PlaneDesk$Net" "edges" "I" "PlaneDesk"))⟩⟩
theorem fs_3_92 : mi_fs 3 92 4 3 true := ⟨_, rfl, by decide, ⟨_, List.mem_of_getElem? (i := 124) (by decide +kernel : _ = some (Cond.fieldLinkNest (mi_cn 3) 92 "PlaneDesk$Net" "vertices" "I" "PlaneDesk"))⟩⟩
theorem fs_3_103 : mi_fs 3 103 3 7 false := ⟨_, rfl, by decide, mi_in 275 (by decide +kernel) rfl⟩
theorem fs_3_113 : mi_fs 3 113 7 2 true := ⟨_, rfl, by decide, ⟨_, List.mem_of_getElem? (i := 254) (by decide +kernel : _ = some (Cond.fieldLinkNest (mi_cn 3) 113 "PlaneDesk$Search" "way" "LPlaneDesk$Row;" "PlaneDesk"))⟩⟩
theorem fs_3_126 : mi_fs 3 126 3 9 false := ⟨_, rfl, by decide, mi_in 277 (by decide +kernel) rfl⟩
theorem fs_3_135 : mi_fs 3 135 3 10 false := ⟨_, rfl, by decide, mi_in 278 (by decide +kernel) rfl⟩
theorem fs_3_138 : mi_fs 3 138 7 3 true := ⟨_, rfl, by decide, ⟨_, List.mem_of_getElem? (i := 256) (by decide +kernel : _ = some (Cond.fieldLinkNest (mi_cn 3) 138 "PlaneDesk$Search" "goal" "I" "PlaneDesk"))⟩⟩
theorem fs_3_145 : mi_fs 3 145 3 8 false := ⟨_, rfl, by decide, mi_in 276 (by decide +kernel) rfl⟩
theorem fs_3_163 : mi_fs 3 163 3 11 false := ⟨_, rfl, by decide, mi_in 279 (by decide +kernel) rfl⟩
theorem fs_3_184 : mi_fs 3 184 5 3 true := ⟨_, rfl, by decide, ⟨_, List.mem_of_getElem? (i := 233) (by decide +kernel : _ = some (Cond.fieldLinkNest (mi_cn 3) 184 "PlaneDesk$Rings" "count" "I" "PlaneDesk"))⟩⟩
theorem fs_4_9 : mi_fs 4 9 4 0 false := ⟨_, rfl, by decide, mi_in 119 (by decide +kernel) rfl⟩
theorem fs_4_15 : mi_fs 4 15 4 1 false := ⟨_, rfl, by decide, mi_in 120 (by decide +kernel) rfl⟩
theorem fs_4_18 : mi_fs 4 18 4 2 false := ⟨_, rfl, by decide, mi_in 121 (by decide +kernel) rfl⟩
theorem fs_4_30 : mi_fs 4 30 4 3 false := ⟨_, rfl, by decide, mi_in 122 (by decide +kernel) rfl⟩
theorem fs_4_34 : mi_fs 4 34 4 4 false := ⟨_, rfl, by decide, mi_in 130 (by decide +kernel) rfl⟩
theorem fs_5_11 : mi_fs 5 11 5 0 false := ⟨_, rfl, by decide, mi_in 229 (by decide +kernel) rfl⟩
theorem fs_5_17 : mi_fs 5 17 5 1 false := ⟨_, rfl, by decide, mi_in 230 (by decide +kernel) rfl⟩
theorem fs_5_24 : mi_fs 5 24 5 2 false := ⟨_, rfl, by decide, mi_in 231 (by decide +kernel) rfl⟩
theorem fs_5_28 : mi_fs 5 28 5 3 false := ⟨_, rfl, by decide, mi_in 232 (by decide +kernel) rfl⟩
theorem fs_6_15 : mi_fs 6 15 6 0 false := ⟨_, rfl, by decide, mi_in 168 (by decide +kernel) rfl⟩
theorem fs_6_21 : mi_fs 6 21 6 1 false := ⟨_, rfl, by decide, mi_in 169 (by decide +kernel) rfl⟩
theorem fs_7_9 : mi_fs 7 9 7 0 false := ⟨_, rfl, by decide, mi_in 251 (by decide +kernel) rfl⟩
theorem fs_7_20 : mi_fs 7 20 7 1 false := ⟨_, rfl, by decide, mi_in 252 (by decide +kernel) rfl⟩
theorem fs_7_24 : mi_fs 7 24 7 2 false := ⟨_, rfl, by decide, mi_in 253 (by decide +kernel) rfl⟩
theorem fs_7_27 : mi_fs 7 27 7 3 false := ⟨_, rfl, by decide, mi_in 255 (by decide +kernel) rfl⟩
theorem fs_8_14 : mi_fs 8 14 8 0 false := ⟨_, rfl, by decide, mi_in 340 (by decide +kernel) rfl⟩
theorem fs_8_20 : mi_fs 8 20 8 1 false := ⟨_, rfl, by decide, mi_in 342 (by decide +kernel) rfl⟩
theorem fs_8_23 : mi_fs 8 23 8 2 false := ⟨_, rfl, by decide, mi_in 344 (by decide +kernel) rfl⟩
theorem fs_8_30 : mi_fs 8 30 4 4 true := ⟨_, rfl, by decide, ⟨_, List.mem_of_getElem? (i := 131) (by decide +kernel : _ = some (Cond.fieldLinkNest (mi_cn 8) 30 "PlaneDesk$Net" "edges" "I" "PlaneDesk"))⟩⟩
theorem fs_8_50 : mi_fs 8 50 4 3 true := ⟨_, rfl, by decide, ⟨_, List.mem_of_getElem? (i := 123) (by decide +kernel : _ = some (Cond.fieldLinkNest (mi_cn 8) 50 "PlaneDesk$Net" "vertices" "I" "PlaneDesk"))⟩⟩
theorem fs_9_11 : mi_fs 9 11 9 0 false := ⟨_, rfl, by decide, mi_in 215 (by decide +kernel) rfl⟩
theorem fs_10_9 : mi_fs 10 9 10 0 false := ⟨_, rfl, by decide, mi_in 315 (by decide +kernel) rfl⟩
theorem fs_10_15 : mi_fs 10 15 10 1 false := ⟨_, rfl, by decide, mi_in 316 (by decide +kernel) rfl⟩
theorem fs_10_18 : mi_fs 10 18 10 2 false := ⟨_, rfl, by decide, mi_in 317 (by decide +kernel) rfl⟩
theorem fs_10_26 : mi_fs 10 26 10 3 false := ⟨_, rfl, by decide, mi_in 318 (by decide +kernel) rfl⟩
theorem fs_10_34 : mi_fs 10 34 4 4 true := ⟨_, rfl, by decide, ⟨_, List.mem_of_getElem? (i := 129) (by decide +kernel : _ = some (Cond.fieldLinkNest (mi_cn 10) 34 "PlaneDesk$Net" "edges" "I" "PlaneDesk"))⟩⟩
theorem fs_10_54 : mi_fs 10 54 10 4 false := ⟨_, rfl, by decide, mi_in 319 (by decide +kernel) rfl⟩
theorem fs_11_12 : mi_fs 11 12 11 0 false := ⟨_, rfl, by decide, mi_in 412 (by decide +kernel) rfl⟩
theorem fs_11_16 : mi_fs 11 16 11 1 false := ⟨_, rfl, by decide, mi_in 413 (by decide +kernel) rfl⟩
theorem fs_11_22 : mi_fs 11 22 11 2 false := ⟨_, rfl, by decide, mi_in 414 (by decide +kernel) rfl⟩
theorem fs_11_29 : mi_fs 11 29 11 3 false := ⟨_, rfl, by decide, mi_in 415 (by decide +kernel) rfl⟩
theorem fs_11_36 : mi_fs 11 36 11 4 false := ⟨_, rfl, by decide, mi_in 416 (by decide +kernel) rfl⟩
theorem fs_11_43 : mi_fs 11 43 11 5 false := ⟨_, rfl, by decide, mi_in 417 (by decide +kernel) rfl⟩
theorem fs_11_50 : mi_fs 11 50 11 6 false := ⟨_, rfl, by decide, mi_in 418 (by decide +kernel) rfl⟩
theorem fs_11_57 : mi_fs 11 57 11 7 false := ⟨_, rfl, by decide, mi_in 419 (by decide +kernel) rfl⟩
theorem fs_11_61 : mi_fs 11 61 11 12 false := ⟨_, rfl, by decide, mi_in 424 (by decide +kernel) rfl⟩
theorem fs_11_80 : mi_fs 11 80 4 4 true := ⟨_, rfl, by decide, ⟨_, List.mem_of_getElem? (i := 133) (by decide +kernel : _ = some (Cond.fieldLinkNest (mi_cn 11) 80 "PlaneDesk$Net" "edges" "I" "PlaneDesk"))⟩⟩
theorem fs_11_97 : mi_fs 11 97 3 0 true := ⟨_, rfl, by decide, ⟨_, List.mem_of_getElem? (i := 267) (by decide +kernel : _ = some (Cond.fieldLinkNest (mi_cn 11) 97 "PlaneDesk$Layout" "blocks" "LPlaneDesk$Blocks;" "PlaneDesk"))⟩⟩
theorem fs_11_110 : mi_fs 11 110 4 3 true := ⟨_, rfl, by decide, ⟨_, List.mem_of_getElem? (i := 128) (by decide +kernel : _ = some (Cond.fieldLinkNest (mi_cn 11) 110 "PlaneDesk$Net" "vertices" "I" "PlaneDesk"))⟩⟩
theorem fs_11_113 : mi_fs 11 113 0 7 true := ⟨_, rfl, by decide, ⟨_, List.mem_of_getElem? (i := 183) (by decide +kernel : _ = some (Cond.fieldLinkNest (mi_cn 11) 113 "PlaneDesk$Blocks" "components" "I" "PlaneDesk"))⟩⟩
theorem fs_11_120 : mi_fs 11 120 0 8 true := ⟨_, rfl, by decide, ⟨_, List.mem_of_getElem? (i := 185) (by decide +kernel : _ = some (Cond.fieldLinkNest (mi_cn 11) 120 "PlaneDesk$Blocks" "count" "I" "PlaneDesk"))⟩⟩
theorem fs_11_130 : mi_fs 11 130 10 4 true := ⟨_, rfl, by decide, ⟨_, List.mem_of_getElem? (i := 320) (by decide +kernel : _ = some (Cond.fieldLinkNest (mi_cn 11) 130 "PlaneDesk$Walks" "count" "I" "PlaneDesk"))⟩⟩
theorem fs_11_131 : mi_fs 11 131 11 9 false := ⟨_, rfl, by decide, mi_in 421 (by decide +kernel) rfl⟩
theorem fs_11_138 : mi_fs 11 138 11 8 false := ⟨_, rfl, by decide, mi_in 420 (by decide +kernel) rfl⟩
theorem fs_11_156 : mi_fs 11 156 8 0 true := ⟨_, rfl, by decide, ⟨_, List.mem_of_getElem? (i := 341) (by decide +kernel : _ = some (Cond.fieldLinkNest (mi_cn 11) 156 "PlaneDesk$Tangle" "edges" "LPlaneDesk$Row;" "PlaneDesk"))⟩⟩
theorem fs_11_167 : mi_fs 11 167 8 1 true := ⟨_, rfl, by decide, ⟨_, List.mem_of_getElem? (i := 343) (by decide +kernel : _ = some (Cond.fieldLinkNest (mi_cn 11) 167 "PlaneDesk$Tangle" "branches" "LPlaneDesk$Row;" "PlaneDesk"))⟩⟩
theorem fs_11_195 : mi_fs 11 195 11 10 false := ⟨_, rfl, by decide, mi_in 422 (by decide +kernel) rfl⟩
theorem fs_11_201 : mi_fs 11 201 2 0 true := ⟨_, rfl, by decide, ⟨_, List.mem_of_getElem? (i := 361) (by decide +kernel : _ = some (Cond.fieldLinkNest (mi_cn 11) 201 "PlaneDesk$Drawing" "x" "[I" "PlaneDesk"))⟩⟩
theorem fs_11_205 : mi_fs 11 205 2 1 true := ⟨_, rfl, by decide, ⟨_, List.mem_of_getElem? (i := 363) (by decide +kernel : _ = some (Cond.fieldLinkNest (mi_cn 11) 205 "PlaneDesk$Drawing" "y" "[I" "PlaneDesk"))⟩⟩
theorem fs_11_208 : mi_fs 11 208 2 3 true := ⟨_, rfl, by decide, ⟨_, List.mem_of_getElem? (i := 366) (by decide +kernel : _ = some (Cond.fieldLinkNest (mi_cn 11) 208 "PlaneDesk$Drawing" "order" "LPlaneDesk$Row;" "PlaneDesk"))⟩⟩
theorem fs_11_213 : mi_fs 11 213 11 11 false := ⟨_, rfl, by decide, mi_in 423 (by decide +kernel) rfl⟩
theorem fs_11_219 : mi_fs 11 219 1 0 true := ⟨_, rfl, by decide, ⟨_, List.mem_of_getElem? (i := 394) (by decide +kernel : _ = some (Cond.fieldLinkNest (mi_cn 11) 219 "PlaneDesk$Colouring" "colours" "[I" "PlaneDesk"))⟩⟩
theorem fs_11_222 : mi_fs 11 222 3 1 true := ⟨_, rfl, by decide, ⟨_, List.mem_of_getElem? (i := 269) (by decide +kernel : _ = some (Cond.fieldLinkNest (mi_cn 11) 222 "PlaneDesk$Layout" "made" "LPlaneDesk$Turning;" "PlaneDesk"))⟩⟩
theorem fs_12_7 : mi_fs 12 7 12 2 false := ⟨_, rfl, by decide, mi_in 998 (by decide +kernel) rfl⟩
theorem fs_12_13 : mi_fs 12 13 12 3 false := ⟨_, rfl, by decide, mi_in 999 (by decide +kernel) rfl⟩
theorem fs_12_16 : mi_fs 12 16 12 4 false := ⟨_, rfl, by decide, mi_in 1000 (by decide +kernel) rfl⟩
theorem fs_12_20 : mi_fs 12 20 12 5 false := ⟨_, rfl, by decide, mi_in 1001 (by decide +kernel) rfl⟩
theorem fs_12_23 : mi_fs 12 23 12 7 false := ⟨_, rfl, by decide, mi_in 1003 (by decide +kernel) rfl⟩
theorem fs_12_26 : mi_fs 12 26 12 8 false := ⟨_, rfl, by decide, mi_in 1004 (by decide +kernel) rfl⟩
theorem fs_12_29 : mi_fs 12 29 12 10 false := ⟨_, rfl, by decide, mi_in 1006 (by decide +kernel) rfl⟩
theorem fs_12_32 : mi_fs 12 32 12 12 false := ⟨_, rfl, by decide, mi_in 1008 (by decide +kernel) rfl⟩
theorem fs_12_35 : mi_fs 12 35 12 13 false := ⟨_, rfl, by decide, mi_in 1009 (by decide +kernel) rfl⟩
theorem fs_12_38 : mi_fs 12 38 12 14 false := ⟨_, rfl, by decide, mi_in 1010 (by decide +kernel) rfl⟩
theorem fs_12_41 : mi_fs 12 41 12 16 false := ⟨_, rfl, by decide, mi_in 1012 (by decide +kernel) rfl⟩
theorem fs_12_44 : mi_fs 12 44 12 18 false := ⟨_, rfl, by decide, mi_in 1014 (by decide +kernel) rfl⟩
theorem fs_12_47 : mi_fs 12 47 12 19 false := ⟨_, rfl, by decide, mi_in 1015 (by decide +kernel) rfl⟩
theorem fs_12_50 : mi_fs 12 50 12 20 false := ⟨_, rfl, by decide, mi_in 1016 (by decide +kernel) rfl⟩
theorem fs_12_53 : mi_fs 12 53 12 21 false := ⟨_, rfl, by decide, mi_in 1017 (by decide +kernel) rfl⟩
theorem fs_12_56 : mi_fs 12 56 12 23 false := ⟨_, rfl, by decide, mi_in 1019 (by decide +kernel) rfl⟩
theorem fs_12_59 : mi_fs 12 59 12 24 false := ⟨_, rfl, by decide, mi_in 1020 (by decide +kernel) rfl⟩
theorem fs_12_62 : mi_fs 12 62 12 25 false := ⟨_, rfl, by decide, mi_in 1021 (by decide +kernel) rfl⟩
theorem fs_12_65 : mi_fs 12 65 12 27 false := ⟨_, rfl, by decide, mi_in 1023 (by decide +kernel) rfl⟩
theorem fs_12_68 : mi_fs 12 68 12 30 false := ⟨_, rfl, by decide, mi_in 1026 (by decide +kernel) rfl⟩
theorem fs_12_71 : mi_fs 12 71 12 31 false := ⟨_, rfl, by decide, mi_in 1027 (by decide +kernel) rfl⟩
theorem fs_12_74 : mi_fs 12 74 12 33 false := ⟨_, rfl, by decide, mi_in 1029 (by decide +kernel) rfl⟩
theorem fs_12_77 : mi_fs 12 77 12 34 false := ⟨_, rfl, by decide, mi_in 1030 (by decide +kernel) rfl⟩
theorem fs_12_80 : mi_fs 12 80 12 38 false := ⟨_, rfl, by decide, mi_in 1034 (by decide +kernel) rfl⟩
theorem fs_12_83 : mi_fs 12 83 12 39 false := ⟨_, rfl, by decide, mi_in 1035 (by decide +kernel) rfl⟩
theorem fs_12_86 : mi_fs 12 86 12 40 false := ⟨_, rfl, by decide, mi_in 1036 (by decide +kernel) rfl⟩
theorem fs_12_89 : mi_fs 12 89 12 42 false := ⟨_, rfl, by decide, mi_in 1038 (by decide +kernel) rfl⟩
theorem fs_12_92 : mi_fs 12 92 12 43 false := ⟨_, rfl, by decide, mi_in 1039 (by decide +kernel) rfl⟩
theorem fs_12_95 : mi_fs 12 95 12 44 false := ⟨_, rfl, by decide, mi_in 1040 (by decide +kernel) rfl⟩
theorem fs_12_98 : mi_fs 12 98 12 46 false := ⟨_, rfl, by decide, mi_in 1042 (by decide +kernel) rfl⟩
theorem fs_12_101 : mi_fs 12 101 12 48 false := ⟨_, rfl, by decide, mi_in 1044 (by decide +kernel) rfl⟩
theorem fs_12_104 : mi_fs 12 104 12 0 false := ⟨_, rfl, by decide, mi_in 996 (by decide +kernel) rfl⟩
theorem fs_12_112 : mi_fs 12 112 12 9 false := ⟨_, rfl, by decide, mi_in 1005 (by decide +kernel) rfl⟩
theorem fs_12_116 : mi_fs 12 116 12 11 false := ⟨_, rfl, by decide, mi_in 1007 (by decide +kernel) rfl⟩
theorem fs_12_119 : mi_fs 12 119 12 15 false := ⟨_, rfl, by decide, mi_in 1011 (by decide +kernel) rfl⟩
theorem fs_12_122 : mi_fs 12 122 12 17 false := ⟨_, rfl, by decide, mi_in 1013 (by decide +kernel) rfl⟩
theorem fs_12_125 : mi_fs 12 125 12 1 false := ⟨_, rfl, by decide, mi_in 997 (by decide +kernel) rfl⟩
theorem fs_12_143 : mi_fs 12 143 12 22 false := ⟨_, rfl, by decide, mi_in 1018 (by decide +kernel) rfl⟩
theorem fs_12_161 : mi_fs 12 161 12 6 false := ⟨_, rfl, by decide, mi_in 1002 (by decide +kernel) rfl⟩
theorem fs_12_164 : mi_fs 12 164 12 29 false := ⟨_, rfl, by decide, mi_in 1025 (by decide +kernel) rfl⟩
theorem fs_12_170 : mi_fs 12 170 12 35 false := ⟨_, rfl, by decide, mi_in 1031 (by decide +kernel) rfl⟩
theorem fs_12_184 : mi_fs 12 184 12 26 false := ⟨_, rfl, by decide, mi_in 1022 (by decide +kernel) rfl⟩
theorem fs_12_187 : mi_fs 12 187 12 28 false := ⟨_, rfl, by decide, mi_in 1024 (by decide +kernel) rfl⟩
theorem fs_12_190 : mi_fs 12 190 12 32 false := ⟨_, rfl, by decide, mi_in 1028 (by decide +kernel) rfl⟩
theorem fs_12_193 : mi_fs 12 193 12 36 false := ⟨_, rfl, by decide, mi_in 1032 (by decide +kernel) rfl⟩
theorem fs_12_196 : mi_fs 12 196 12 37 false := ⟨_, rfl, by decide, mi_in 1033 (by decide +kernel) rfl⟩
theorem fs_12_266 : mi_fs 12 266 12 41 false := ⟨_, rfl, by decide, mi_in 1037 (by decide +kernel) rfl⟩
theorem fs_12_285 : mi_fs 12 285 12 45 false := ⟨_, rfl, by decide, mi_in 1041 (by decide +kernel) rfl⟩
theorem fs_12_291 : mi_fs 12 291 12 47 false := ⟨_, rfl, by decide, mi_in 1043 (by decide +kernel) rfl⟩
def mi_FSL_0 : List (Nat × Nat × Nat × Nat × Bool) := [(0, 9, 0, 0, false), (0, 15, 0, 1, false), (0, 18, 0, 2, false), (0, 21, 0, 3, false), (0, 24, 0, 4, false), (0, 32, 0, 5, false), (0, 36, 0, 6, false), (0, 40, 0, 7, false), (0, 43, 4, 3, true), (0, 56, 4, 4, true), (0, 111, 0, 8, false), (1, 9, 1, 0, false), (1, 20, 1, 1, false), (1, 57, 4, 3, true), (2, 9, 2, 0, false), (2, 15, 2, 1, false), (2, 18, 2, 2, false), (2, 26, 2, 3, false), (2, 30, 2, 4, false), (2, 33, 2, 5, false), (2, 36, 2, 6, false), (2, 83, 4, 3, true), (3, 12, 3, 0, false), (3, 21, 3, 1, false), (3, 28, 3, 2, false), (3, 32, 3, 3, false), (3, 38, 3, 4, false), (3, 45, 3, 5, false), (3, 49, 3, 6, false), (3, 60, 0, 8, true), (3, 68, 4, 4, true), (3, 92, 4, 3, true), (3, 103, 3, 7, false), (3, 113, 7, 2, true), (3, 126, 3, 9, false), (3, 135, 3, 10, false), (3, 138, 7, 3, true), (3, 145, 3, 8, false), (3, 163, 3, 11, false), (3, 184, 5, 3, true)]
theorem mi_FSL_0_ok : ∀ q ∈ mi_FSL_0, mi_fs q.1 q.2.1 q.2.2.1 q.2.2.2.1 q.2.2.2.2 := List.forall_mem_cons.mpr ⟨fs_0_9, List.forall_mem_cons.mpr ⟨fs_0_15, List.forall_mem_cons.mpr ⟨fs_0_18, List.forall_mem_cons.mpr ⟨fs_0_21, List.forall_mem_cons.mpr ⟨fs_0_24, List.forall_mem_cons.mpr ⟨fs_0_32, List.forall_mem_cons.mpr ⟨fs_0_36, List.forall_mem_cons.mpr ⟨fs_0_40, List.forall_mem_cons.mpr ⟨fs_0_43, List.forall_mem_cons.mpr ⟨fs_0_56, List.forall_mem_cons.mpr ⟨fs_0_111, List.forall_mem_cons.mpr ⟨fs_1_9, List.forall_mem_cons.mpr ⟨fs_1_20, List.forall_mem_cons.mpr ⟨fs_1_57, List.forall_mem_cons.mpr ⟨fs_2_9, List.forall_mem_cons.mpr ⟨fs_2_15, List.forall_mem_cons.mpr ⟨fs_2_18, List.forall_mem_cons.mpr ⟨fs_2_26, List.forall_mem_cons.mpr ⟨fs_2_30, List.forall_mem_cons.mpr ⟨fs_2_33, List.forall_mem_cons.mpr ⟨fs_2_36, List.forall_mem_cons.mpr ⟨fs_2_83, List.forall_mem_cons.mpr ⟨fs_3_12, List.forall_mem_cons.mpr ⟨fs_3_21, List.forall_mem_cons.mpr ⟨fs_3_28, List.forall_mem_cons.mpr ⟨fs_3_32, List.forall_mem_cons.mpr ⟨fs_3_38, List.forall_mem_cons.mpr ⟨fs_3_45, List.forall_mem_cons.mpr ⟨fs_3_49, List.forall_mem_cons.mpr ⟨fs_3_60, List.forall_mem_cons.mpr ⟨fs_3_68, List.forall_mem_cons.mpr ⟨fs_3_92, List.forall_mem_cons.mpr ⟨fs_3_103, List.forall_mem_cons.mpr ⟨fs_3_113, List.forall_mem_cons.mpr ⟨fs_3_126, List.forall_mem_cons.mpr ⟨fs_3_135, List.forall_mem_cons.mpr ⟨fs_3_138, List.forall_mem_cons.mpr ⟨fs_3_145, List.forall_mem_cons.mpr ⟨fs_3_163, List.forall_mem_cons.mpr ⟨fs_3_184, fun _ h => absurd h List.not_mem_nil⟩⟩⟩⟩⟩⟩⟩⟩⟩⟩⟩⟩⟩⟩⟩⟩⟩⟩⟩⟩⟩⟩⟩⟩⟩⟩⟩⟩⟩⟩⟩⟩⟩⟩⟩⟩⟩⟩⟩⟩
def mi_FSL_1 : List (Nat × Nat × Nat × Nat × Bool) := [(4, 9, 4, 0, false), (4, 15, 4, 1, false), (4, 18, 4, 2, false), (4, 30, 4, 3, false), (4, 34, 4, 4, false), (5, 11, 5, 0, false), (5, 17, 5, 1, false), (5, 24, 5, 2, false), (5, 28, 5, 3, false), (6, 15, 6, 0, false), (6, 21, 6, 1, false), (7, 9, 7, 0, false), (7, 20, 7, 1, false), (7, 24, 7, 2, false), (7, 27, 7, 3, false), (8, 14, 8, 0, false), (8, 20, 8, 1, false), (8, 23, 8, 2, false), (8, 30, 4, 4, true), (8, 50, 4, 3, true), (9, 11, 9, 0, false), (10, 9, 10, 0, false), (10, 15, 10, 1, false), (10, 18, 10, 2, false), (10, 26, 10, 3, false), (10, 34, 4, 4, true), (10, 54, 10, 4, false), (11, 12, 11, 0, false), (11, 16, 11, 1, false), (11, 22, 11, 2, false), (11, 29, 11, 3, false), (11, 36, 11, 4, false), (11, 43, 11, 5, false), (11, 50, 11, 6, false), (11, 57, 11, 7, false), (11, 61, 11, 12, false), (11, 80, 4, 4, true), (11, 97, 3, 0, true), (11, 110, 4, 3, true), (11, 113, 0, 7, true)]
theorem mi_FSL_1_ok : ∀ q ∈ mi_FSL_1, mi_fs q.1 q.2.1 q.2.2.1 q.2.2.2.1 q.2.2.2.2 := List.forall_mem_cons.mpr ⟨fs_4_9, List.forall_mem_cons.mpr ⟨fs_4_15, List.forall_mem_cons.mpr ⟨fs_4_18, List.forall_mem_cons.mpr ⟨fs_4_30, List.forall_mem_cons.mpr ⟨fs_4_34, List.forall_mem_cons.mpr ⟨fs_5_11, List.forall_mem_cons.mpr ⟨fs_5_17, List.forall_mem_cons.mpr ⟨fs_5_24, List.forall_mem_cons.mpr ⟨fs_5_28, List.forall_mem_cons.mpr ⟨fs_6_15, List.forall_mem_cons.mpr ⟨fs_6_21, List.forall_mem_cons.mpr ⟨fs_7_9, List.forall_mem_cons.mpr ⟨fs_7_20, List.forall_mem_cons.mpr ⟨fs_7_24, List.forall_mem_cons.mpr ⟨fs_7_27, List.forall_mem_cons.mpr ⟨fs_8_14, List.forall_mem_cons.mpr ⟨fs_8_20, List.forall_mem_cons.mpr ⟨fs_8_23, List.forall_mem_cons.mpr ⟨fs_8_30, List.forall_mem_cons.mpr ⟨fs_8_50, List.forall_mem_cons.mpr ⟨fs_9_11, List.forall_mem_cons.mpr ⟨fs_10_9, List.forall_mem_cons.mpr ⟨fs_10_15, List.forall_mem_cons.mpr ⟨fs_10_18, List.forall_mem_cons.mpr ⟨fs_10_26, List.forall_mem_cons.mpr ⟨fs_10_34, List.forall_mem_cons.mpr ⟨fs_10_54, List.forall_mem_cons.mpr ⟨fs_11_12, List.forall_mem_cons.mpr ⟨fs_11_16, List.forall_mem_cons.mpr ⟨fs_11_22, List.forall_mem_cons.mpr ⟨fs_11_29, List.forall_mem_cons.mpr ⟨fs_11_36, List.forall_mem_cons.mpr ⟨fs_11_43, List.forall_mem_cons.mpr ⟨fs_11_50, List.forall_mem_cons.mpr ⟨fs_11_57, List.forall_mem_cons.mpr ⟨fs_11_61, List.forall_mem_cons.mpr ⟨fs_11_80, List.forall_mem_cons.mpr ⟨fs_11_97, List.forall_mem_cons.mpr ⟨fs_11_110, List.forall_mem_cons.mpr ⟨fs_11_113, fun _ h => absurd h List.not_mem_nil⟩⟩⟩⟩⟩⟩⟩⟩⟩⟩⟩⟩⟩⟩⟩⟩⟩⟩⟩⟩⟩⟩⟩⟩⟩⟩⟩⟩⟩⟩⟩⟩⟩⟩⟩⟩⟩⟩⟩⟩
def mi_FSL_2 : List (Nat × Nat × Nat × Nat × Bool) := [(11, 120, 0, 8, true), (11, 130, 10, 4, true), (11, 131, 11, 9, false), (11, 138, 11, 8, false), (11, 156, 8, 0, true), (11, 167, 8, 1, true), (11, 195, 11, 10, false), (11, 201, 2, 0, true), (11, 205, 2, 1, true), (11, 208, 2, 3, true), (11, 213, 11, 11, false), (11, 219, 1, 0, true), (11, 222, 3, 1, true), (12, 7, 12, 2, false), (12, 13, 12, 3, false), (12, 16, 12, 4, false), (12, 20, 12, 5, false), (12, 23, 12, 7, false), (12, 26, 12, 8, false), (12, 29, 12, 10, false), (12, 32, 12, 12, false), (12, 35, 12, 13, false), (12, 38, 12, 14, false), (12, 41, 12, 16, false), (12, 44, 12, 18, false), (12, 47, 12, 19, false), (12, 50, 12, 20, false), (12, 53, 12, 21, false), (12, 56, 12, 23, false), (12, 59, 12, 24, false), (12, 62, 12, 25, false), (12, 65, 12, 27, false), (12, 68, 12, 30, false), (12, 71, 12, 31, false), (12, 74, 12, 33, false), (12, 77, 12, 34, false), (12, 80, 12, 38, false), (12, 83, 12, 39, false), (12, 86, 12, 40, false), (12, 89, 12, 42, false)]
theorem mi_FSL_2_ok : ∀ q ∈ mi_FSL_2, mi_fs q.1 q.2.1 q.2.2.1 q.2.2.2.1 q.2.2.2.2 := List.forall_mem_cons.mpr ⟨fs_11_120, List.forall_mem_cons.mpr ⟨fs_11_130, List.forall_mem_cons.mpr ⟨fs_11_131, List.forall_mem_cons.mpr ⟨fs_11_138, List.forall_mem_cons.mpr ⟨fs_11_156, List.forall_mem_cons.mpr ⟨fs_11_167, List.forall_mem_cons.mpr ⟨fs_11_195, List.forall_mem_cons.mpr ⟨fs_11_201, List.forall_mem_cons.mpr ⟨fs_11_205, List.forall_mem_cons.mpr ⟨fs_11_208, List.forall_mem_cons.mpr ⟨fs_11_213, List.forall_mem_cons.mpr ⟨fs_11_219, List.forall_mem_cons.mpr ⟨fs_11_222, List.forall_mem_cons.mpr ⟨fs_12_7, List.forall_mem_cons.mpr ⟨fs_12_13, List.forall_mem_cons.mpr ⟨fs_12_16, List.forall_mem_cons.mpr ⟨fs_12_20, List.forall_mem_cons.mpr ⟨fs_12_23, List.forall_mem_cons.mpr ⟨fs_12_26, List.forall_mem_cons.mpr ⟨fs_12_29, List.forall_mem_cons.mpr ⟨fs_12_32, List.forall_mem_cons.mpr ⟨fs_12_35, List.forall_mem_cons.mpr ⟨fs_12_38, List.forall_mem_cons.mpr ⟨fs_12_41, List.forall_mem_cons.mpr ⟨fs_12_44, List.forall_mem_cons.mpr ⟨fs_12_47, List.forall_mem_cons.mpr ⟨fs_12_50, List.forall_mem_cons.mpr ⟨fs_12_53, List.forall_mem_cons.mpr ⟨fs_12_56, List.forall_mem_cons.mpr ⟨fs_12_59, List.forall_mem_cons.mpr ⟨fs_12_62, List.forall_mem_cons.mpr ⟨fs_12_65, List.forall_mem_cons.mpr ⟨fs_12_68, List.forall_mem_cons.mpr ⟨fs_12_71, List.forall_mem_cons.mpr ⟨fs_12_74, List.forall_mem_cons.mpr ⟨fs_12_77, List.forall_mem_cons.mpr ⟨fs_12_80, List.forall_mem_cons.mpr ⟨fs_12_83, List.forall_mem_cons.mpr ⟨fs_12_86, List.forall_mem_cons.mpr ⟨fs_12_89, fun _ h => absurd h List.not_mem_nil⟩⟩⟩⟩⟩⟩⟩⟩⟩⟩⟩⟩⟩⟩⟩⟩⟩⟩⟩⟩⟩⟩⟩⟩⟩⟩⟩⟩⟩⟩⟩⟩⟩⟩⟩⟩⟩⟩⟩⟩
def mi_FSL_3 : List (Nat × Nat × Nat × Nat × Bool) := [(12, 92, 12, 43, false), (12, 95, 12, 44, false), (12, 98, 12, 46, false), (12, 101, 12, 48, false), (12, 104, 12, 0, false), (12, 112, 12, 9, false), (12, 116, 12, 11, false), (12, 119, 12, 15, false), (12, 122, 12, 17, false), (12, 125, 12, 1, false), (12, 143, 12, 22, false), (12, 161, 12, 6, false), (12, 164, 12, 29, false), (12, 170, 12, 35, false), (12, 184, 12, 26, false), (12, 187, 12, 28, false), (12, 190, 12, 32, false), (12, 193, 12, 36, false), (12, 196, 12, 37, false), (12, 266, 12, 41, false), (12, 285, 12, 45, false), (12, 291, 12, 47, false)]
theorem mi_FSL_3_ok : ∀ q ∈ mi_FSL_3, mi_fs q.1 q.2.1 q.2.2.1 q.2.2.2.1 q.2.2.2.2 := List.forall_mem_cons.mpr ⟨fs_12_92, List.forall_mem_cons.mpr ⟨fs_12_95, List.forall_mem_cons.mpr ⟨fs_12_98, List.forall_mem_cons.mpr ⟨fs_12_101, List.forall_mem_cons.mpr ⟨fs_12_104, List.forall_mem_cons.mpr ⟨fs_12_112, List.forall_mem_cons.mpr ⟨fs_12_116, List.forall_mem_cons.mpr ⟨fs_12_119, List.forall_mem_cons.mpr ⟨fs_12_122, List.forall_mem_cons.mpr ⟨fs_12_125, List.forall_mem_cons.mpr ⟨fs_12_143, List.forall_mem_cons.mpr ⟨fs_12_161, List.forall_mem_cons.mpr ⟨fs_12_164, List.forall_mem_cons.mpr ⟨fs_12_170, List.forall_mem_cons.mpr ⟨fs_12_184, List.forall_mem_cons.mpr ⟨fs_12_187, List.forall_mem_cons.mpr ⟨fs_12_190, List.forall_mem_cons.mpr ⟨fs_12_193, List.forall_mem_cons.mpr ⟨fs_12_196, List.forall_mem_cons.mpr ⟨fs_12_266, List.forall_mem_cons.mpr ⟨fs_12_285, List.forall_mem_cons.mpr ⟨fs_12_291, fun _ h => absurd h List.not_mem_nil⟩⟩⟩⟩⟩⟩⟩⟩⟩⟩⟩⟩⟩⟩⟩⟩⟩⟩⟩⟩⟩⟩
def mi_FSL : List (Nat × Nat × Nat × Nat × Bool) := mi_FSL_0 ++ (mi_FSL_1 ++ (mi_FSL_2 ++ (mi_FSL_3)))
theorem mi_FSL_ok : ∀ q ∈ mi_FSL, mi_fs q.1 q.2.1 q.2.2.1 q.2.2.2.1 q.2.2.2.2 := List.forall_mem_append.mpr ⟨mi_FSL_0_ok, List.forall_mem_append.mpr ⟨mi_FSL_1_ok, List.forall_mem_append.mpr ⟨mi_FSL_2_ok, mi_FSL_3_ok⟩⟩⟩
theorem os_0_3 : Cond.methodLink (mi_cn 0) 3 Lib.objectInit ∈ mi_gd := mi_in 158 (by decide +kernel) rfl
theorem cs_0_29 : mi_cs 0 29 62 := Or.inl (mi_in 161 (by decide +kernel) rfl)
theorem cs_0_48 : mi_cs 0 48 121 := Or.inr ⟨"PlaneDesk", List.mem_of_getElem? (i := 505) (by decide +kernel)⟩
theorem cs_0_52 : mi_cs 0 52 3 := Or.inl (mi_in 508 (by decide +kernel) rfl)
theorem cs_0_59 : mi_cs 0 59 44 := Or.inl (mi_in 540 (by decide +kernel) rfl)
theorem cs_0_63 : mi_cs 0 63 45 := Or.inl (mi_in 541 (by decide +kernel) rfl)
theorem cs_0_66 : mi_cs 0 66 6 := Or.inl (mi_in 542 (by decide +kernel) rfl)
theorem cs_0_70 : mi_cs 0 70 9 := Or.inl (mi_in 558 (by decide +kernel) rfl)
theorem cs_0_74 : mi_cs 0 74 64 := Or.inl (mi_in 512 (by decide +kernel) rfl)
theorem cs_0_77 : mi_cs 0 77 4 := Or.inl (mi_in 516 (by decide +kernel) rfl)
theorem cs_0_81 : mi_cs 0 81 63 := Or.inl (mi_in 528 (by decide +kernel) rfl)
theorem cs_0_85 : mi_cs 0 85 66 := Or.inl (mi_in 532 (by decide +kernel) rfl)
theorem cs_0_88 : mi_cs 0 88 46 := Or.inl (mi_in 536 (by decide +kernel) rfl)
theorem cs_0_91 : mi_cs 0 91 119 := Or.inr ⟨"PlaneDesk", List.mem_of_getElem? (i := 520) (by decide +kernel)⟩
theorem cs_0_95 : mi_cs 0 95 120 := Or.inr ⟨"PlaneDesk", List.mem_of_getElem? (i := 523) (by decide +kernel)⟩
theorem cs_0_98 : mi_cs 0 98 65 := Or.inl (mi_in 524 (by decide +kernel) rfl)
theorem cs_0_101 : mi_cs 0 101 5 := Or.inl (mi_in 546 (by decide +kernel) rfl)
theorem cs_0_105 : mi_cs 0 105 7 := Or.inl (mi_in 550 (by decide +kernel) rfl)
theorem cs_0_108 : mi_cs 0 108 8 := Or.inl (mi_in 554 (by decide +kernel) rfl)
theorem os_1_3 : Cond.methodLink (mi_cn 1) 3 Lib.objectInit ∈ mi_gd := mi_in 390 (by decide +kernel) rfl
theorem cs_1_17 : mi_cs 1 17 62 := Or.inl (mi_in 392 (by decide +kernel) rfl)
theorem cs_1_24 : mi_cs 1 24 12 := Or.inl (mi_in 963 (by decide +kernel) rfl)
theorem cs_1_28 : mi_cs 1 28 63 := Or.inl (mi_in 977 (by decide +kernel) rfl)
theorem cs_1_32 : mi_cs 1 32 66 := Or.inl (mi_in 978 (by decide +kernel) rfl)
theorem cs_1_36 : mi_cs 1 36 46 := Or.inl (mi_in 973 (by decide +kernel) rfl)
theorem cs_1_41 : mi_cs 1 41 14 := Or.inl (mi_in 979 (by decide +kernel) rfl)
theorem cs_1_44 : mi_cs 1 44 119 := Or.inr ⟨"PlaneDesk", List.mem_of_getElem? (i := 984) (by decide +kernel)⟩
theorem cs_1_48 : mi_cs 1 48 120 := Or.inr ⟨"PlaneDesk", List.mem_of_getElem? (i := 967) (by decide +kernel)⟩
theorem cs_1_61 : mi_cs 1 61 64 := Or.inl (mi_in 968 (by decide +kernel) rfl)
theorem cs_1_64 : mi_cs 1 64 13 := Or.inl (mi_in 969 (by decide +kernel) rfl)
theorem cs_1_68 : mi_cs 1 68 65 := Or.inl (mi_in 976 (by decide +kernel) rfl)
theorem cs_1_71 : mi_cs 1 71 191 := Or.inl (mi_in 974 (by decide +kernel) rfl)
theorem cs_1_76 : mi_cs 1 76 121 := Or.inr ⟨"PlaneDesk", List.mem_of_getElem? (i := 975) (by decide +kernel)⟩
theorem cs_1_80 : mi_cs 1 80 122 := Or.inr ⟨"PlaneDesk", List.mem_of_getElem? (i := 983) (by decide +kernel)⟩
theorem os_2_3 : Cond.methodLink (mi_cn 2) 3 Lib.objectInit ∈ mi_gd := mi_in 357 (by decide +kernel) rfl
theorem cs_2_23 : mi_cs 2 23 62 := Or.inl (mi_in 359 (by decide +kernel) rfl)
theorem cs_2_39 : mi_cs 2 39 44 := Or.inl (mi_in 897 (by decide +kernel) rfl)
theorem cs_2_45 : mi_cs 2 45 45 := Or.inl (mi_in 898 (by decide +kernel) rfl)
theorem cs_2_48 : mi_cs 2 48 19 := Or.inl (mi_in 899 (by decide +kernel) rfl)
theorem cs_2_52 : mi_cs 2 52 120 := Or.inr ⟨"PlaneDesk", List.mem_of_getElem? (i := 916) (by decide +kernel)⟩
theorem cs_2_55 : mi_cs 2 55 66 := Or.inl (mi_in 915 (by decide +kernel) rfl)
theorem cs_2_58 : mi_cs 2 58 18 := Or.inl (mi_in 926 (by decide +kernel) rfl)
theorem cs_2_62 : mi_cs 2 62 17 := Or.inl (mi_in 903 (by decide +kernel) rfl)
theorem cs_2_65 : mi_cs 2 65 63 := Or.inl (mi_in 914 (by decide +kernel) rfl)
theorem cs_2_69 : mi_cs 2 69 22 := Or.inl (mi_in 931 (by decide +kernel) rfl)
theorem cs_2_73 : mi_cs 2 73 64 := Or.inl (mi_in 907 (by decide +kernel) rfl)
theorem cs_2_76 : mi_cs 2 76 65 := Or.inl (mi_in 908 (by decide +kernel) rfl)
theorem cs_2_79 : mi_cs 2 79 119 := Or.inr ⟨"PlaneDesk", List.mem_of_getElem? (i := 930) (by decide +kernel)⟩
theorem cs_2_87 : mi_cs 2 87 20 := Or.inl (mi_in 909 (by decide +kernel) rfl)
theorem cs_2_91 : mi_cs 2 91 21 := Or.inl (mi_in 918 (by decide +kernel) rfl)
theorem cs_2_95 : mi_cs 2 95 72 := Or.inl (mi_in 925 (by decide +kernel) rfl)
theorem cs_2_99 : mi_cs 2 99 74 := Or.inl (mi_in 913 (by decide +kernel) rfl)
theorem cs_2_102 : mi_cs 2 102 46 := Or.inl (mi_in 917 (by decide +kernel) rfl)
theorem cs_2_105 : mi_cs 2 105 89 := Or.inl (mi_in 922 (by decide +kernel) rfl)
theorem cs_2_111 : mi_cs 2 111 71 := Or.inl (mi_in 923 (by decide +kernel) rfl)
theorem cs_2_115 : mi_cs 2 115 70 := Or.inl (mi_in 924 (by decide +kernel) rfl)
theorem cs_2_118 : mi_cs 2 118 48 := Or.inl (mi_in 935 (by decide +kernel) rfl)
theorem cs_2_122 : mi_cs 2 122 23 := Or.inl (mi_in 936 (by decide +kernel) rfl)
theorem cs_2_125 : mi_cs 2 125 24 := Or.inl (mi_in 940 (by decide +kernel) rfl)
theorem cs_2_129 : mi_cs 2 129 25 := Or.inl (mi_in 945 (by decide +kernel) rfl)
theorem cs_2_132 : mi_cs 2 132 121 := Or.inr ⟨"PlaneDesk", List.mem_of_getElem? (i := 944) (by decide +kernel)⟩
theorem os_3_3 : Cond.methodLink (mi_cn 3) 3 Lib.objectInit ∈ mi_gd := mi_in 152 (by decide +kernel) rfl
theorem cs_3_11 : mi_cs 3 11 0 := Or.inr ⟨"PlaneDesk", List.mem_of_getElem? (i := 155) (by decide +kernel)⟩
theorem cs_3_20 : mi_cs 3 20 83 := Or.inl (mi_in 208 (by decide +kernel) rfl)
theorem cs_3_27 : mi_cs 3 27 39 := Or.inr ⟨"PlaneDesk", List.mem_of_getElem? (i := 220) (by decide +kernel)⟩
theorem cs_3_37 : mi_cs 3 37 54 := Or.inl (mi_in 223 (by decide +kernel) rfl)
theorem cs_3_44 : mi_cs 3 44 75 := Or.inr ⟨"PlaneDesk", List.mem_of_getElem? (i := 245) (by decide +kernel)⟩
theorem cs_3_53 : mi_cs 3 53 2 := Or.inl (mi_in 582 (by decide +kernel) rfl)
theorem cs_3_57 : mi_cs 3 57 84 := Or.inl (mi_in 583 (by decide +kernel) rfl)
theorem cs_3_64 : mi_cs 3 64 28 := Or.inl (mi_in 588 (by decide +kernel) rfl)
theorem cs_3_71 : mi_cs 3 71 44 := Or.inl (mi_in 594 (by decide +kernel) rfl)
theorem cs_3_75 : mi_cs 3 75 45 := Or.inl (mi_in 595 (by decide +kernel) rfl)
theorem cs_3_78 : mi_cs 3 78 86 := Or.inl (mi_in 597 (by decide +kernel) rfl)
theorem cs_3_82 : mi_cs 3 82 29 := Or.inl (mi_in 603 (by decide +kernel) rfl)
theorem cs_3_85 : mi_cs 3 85 30 := Or.inl (mi_in 652 (by decide +kernel) rfl)
theorem cs_3_89 : mi_cs 3 89 36 := Or.inl (mi_in 724 (by decide +kernel) rfl)
theorem cs_3_95 : mi_cs 3 95 40 := Or.inl (mi_in 592 (by decide +kernel) rfl)
theorem cs_3_99 : mi_cs 3 99 1 := Or.inl (mi_in 593 (by decide +kernel) rfl)
theorem cs_3_102 : mi_cs 3 102 50 := Or.inl (mi_in 596 (by decide +kernel) rfl)
theorem cs_3_106 : mi_cs 3 106 120 := Or.inr ⟨"PlaneDesk", List.mem_of_getElem? (i := 607) (by decide +kernel)⟩
theorem cs_3_109 : mi_cs 3 109 76 := Or.inl (mi_in 608 (by decide +kernel) rfl)
theorem cs_3_117 : mi_cs 3 117 60 := Or.inl (mi_in 623 (by decide +kernel) rfl)
theorem cs_3_120 : mi_cs 3 120 32 := Or.inl (mi_in 645 (by decide +kernel) rfl)
theorem cs_3_123 : mi_cs 3 123 33 := Or.inl (mi_in 656 (by decide +kernel) rfl)
theorem cs_3_129 : mi_cs 3 129 122 := Or.inr ⟨"PlaneDesk", List.mem_of_getElem? (i := 682) (by decide +kernel)⟩
theorem cs_3_132 : mi_cs 3 132 31 := Or.inl (mi_in 691 (by decide +kernel) rfl)
theorem cs_3_141 : mi_cs 3 141 61 := Or.inl (mi_in 699 (by decide +kernel) rfl)
theorem cs_3_148 : mi_cs 3 148 77 := Or.inl (mi_in 695 (by decide +kernel) rfl)
theorem cs_3_151 : mi_cs 3 151 63 := Or.inl (mi_in 649 (by decide +kernel) rfl)
theorem cs_3_157 : mi_cs 3 157 66 := Or.inl (mi_in 650 (by decide +kernel) rfl)
theorem cs_3_160 : mi_cs 3 160 74 := Or.inl (mi_in 651 (by decide +kernel) rfl)
theorem cs_3_167 : mi_cs 3 167 48 := Or.inl (mi_in 660 (by decide +kernel) rfl)
theorem cs_3_171 : mi_cs 3 171 35 := Or.inl (mi_in 665 (by decide +kernel) rfl)
theorem cs_3_174 : mi_cs 3 174 34 := Or.inl (mi_in 673 (by decide +kernel) rfl)
theorem cs_3_177 : mi_cs 3 177 59 := Or.inl (mi_in 677 (by decide +kernel) rfl)
theorem cs_3_181 : mi_cs 3 181 47 := Or.inl (mi_in 669 (by decide +kernel) rfl)
theorem cs_3_185 : mi_cs 3 185 37 := Or.inl (mi_in 728 (by decide +kernel) rfl)
theorem cs_3_188 : mi_cs 3 188 38 := Or.inl (mi_in 750 (by decide +kernel) rfl)
theorem cs_3_191 : mi_cs 3 191 56 := Or.inl (mi_in 732 (by decide +kernel) rfl)
theorem cs_3_193 : mi_cs 3 193 57 := Or.inl (mi_in 736 (by decide +kernel) rfl)
theorem cs_3_195 : mi_cs 3 195 42 := Or.inl (mi_in 741 (by decide +kernel) rfl)
theorem cs_3_199 : mi_cs 3 199 58 := Or.inl (mi_in 745 (by decide +kernel) rfl)
theorem cs_3_202 : mi_cs 3 202 46 := Or.inl (mi_in 754 (by decide +kernel) rfl)
theorem cs_3_205 : mi_cs 3 205 191 := Or.inl (mi_in 755 (by decide +kernel) rfl)
theorem os_4_3 : Cond.methodLink (mi_cn 4) 3 Lib.objectInit ∈ mi_gd := mi_in 118 (by decide +kernel) rfl
theorem cs_4_37 : mi_cs 4 37 192 := Or.inl (mi_in 409 (by decide +kernel) rfl)
theorem cs_4_43 : mi_cs 4 43 40 := Or.inl (mi_in 873 (by decide +kernel) rfl)
theorem cs_4_47 : mi_cs 4 47 44 := Or.inl (mi_in 874 (by decide +kernel) rfl)
theorem cs_4_51 : mi_cs 4 51 45 := Or.inl (mi_in 875 (by decide +kernel) rfl)
theorem cs_4_54 : mi_cs 4 54 50 := Or.inl (mi_in 876 (by decide +kernel) rfl)
theorem cs_4_58 : mi_cs 4 58 43 := Or.inl (mi_in 488 (by decide +kernel) rfl)
theorem cs_4_62 : mi_cs 4 62 121 := Or.inr ⟨"PlaneDesk", List.mem_of_getElem? (i := 664) (by decide +kernel)⟩
theorem cs_4_66 : mi_cs 4 66 49 := Or.inl (mi_in 472 (by decide +kernel) rfl)
theorem cs_4_69 : mi_cs 4 69 120 := Or.inr ⟨"PlaneDesk", List.mem_of_getElem? (i := 473) (by decide +kernel)⟩
theorem os_5_3 : Cond.methodLink (mi_cn 5) 3 Lib.objectInit ∈ mi_gd := mi_in 226 (by decide +kernel) rfl
theorem cs_5_21 : mi_cs 5 21 62 := Or.inl (mi_in 228 (by decide +kernel) rfl)
theorem cs_5_32 : mi_cs 5 32 55 := Or.inl (mi_in 703 (by decide +kernel) rfl)
theorem cs_5_36 : mi_cs 5 36 63 := Or.inl (mi_in 635 (by decide +kernel) rfl)
theorem cs_5_40 : mi_cs 5 40 66 := Or.inl (mi_in 740 (by decide +kernel) rfl)
theorem cs_5_44 : mi_cs 5 44 69 := Or.inl (mi_in 749 (by decide +kernel) rfl)
theorem cs_5_53 : mi_cs 5 53 64 := Or.inl (mi_in 627 (by decide +kernel) rfl)
theorem cs_5_56 : mi_cs 5 56 65 := Or.inl (mi_in 628 (by decide +kernel) rfl)
theorem cs_5_59 : mi_cs 5 59 72 := Or.inl (mi_in 629 (by decide +kernel) rfl)
theorem cs_5_63 : mi_cs 5 63 71 := Or.inl (mi_in 636 (by decide +kernel) rfl)
theorem cs_5_67 : mi_cs 5 67 74 := Or.inl (mi_in 640 (by decide +kernel) rfl)
theorem cs_5_69 : mi_cs 5 69 70 := Or.inl (mi_in 707 (by decide +kernel) rfl)
theorem cs_5_72 : mi_cs 5 72 73 := Or.inl (mi_in 712 (by decide +kernel) rfl)
theorem os_6_3 : Cond.methodLink (mi_cn 6) 3 Lib.objectInit ∈ mi_gd := mi_in 164 (by decide +kernel) rfl
theorem cs_6_25 : mi_cs 6 25 64 := Or.inl (mi_in 711 (by decide +kernel) rfl)
theorem cs_6_28 : mi_cs 6 28 66 := Or.inl (mi_in 633 (by decide +kernel) rfl)
theorem cs_6_32 : mi_cs 6 32 65 := Or.inl (mi_in 634 (by decide +kernel) rfl)
theorem cs_6_36 : mi_cs 6 36 67 := Or.inl (mi_in 716 (by decide +kernel) rfl)
theorem cs_6_39 : mi_cs 6 39 69 := Or.inl (mi_in 720 (by decide +kernel) rfl)
theorem cs_6_42 : mi_cs 6 42 120 := Or.inr ⟨"PlaneDesk", List.mem_of_getElem? (i := 644) (by decide +kernel)⟩
theorem os_7_3 : Cond.methodLink (mi_cn 7) 3 Lib.objectInit ∈ mi_gd := mi_in 248 (by decide +kernel) rfl
theorem cs_7_17 : mi_cs 7 17 62 := Or.inl (mi_in 250 (by decide +kernel) rfl)
theorem cs_7_31 : mi_cs 7 31 64 := Or.inl (mi_in 612 (by decide +kernel) rfl)
theorem cs_7_34 : mi_cs 7 34 65 := Or.inl (mi_in 613 (by decide +kernel) rfl)
theorem cs_7_37 : mi_cs 7 37 63 := Or.inl (mi_in 614 (by decide +kernel) rfl)
theorem cs_7_41 : mi_cs 7 41 66 := Or.inl (mi_in 615 (by decide +kernel) rfl)
theorem cs_7_45 : mi_cs 7 45 46 := Or.inl (mi_in 616 (by decide +kernel) rfl)
theorem cs_7_50 : mi_cs 7 50 121 := Or.inr ⟨"PlaneDesk", List.mem_of_getElem? (i := 617) (by decide +kernel)⟩
theorem cs_7_54 : mi_cs 7 54 78 := Or.inl (mi_in 618 (by decide +kernel) rfl)
theorem cs_7_57 : mi_cs 7 57 119 := Or.inr ⟨"PlaneDesk", List.mem_of_getElem? (i := 622) (by decide +kernel)⟩
theorem os_8_3 : Cond.methodLink (mi_cn 8) 3 Lib.objectInit ∈ mi_gd := mi_in 337 (by decide +kernel) rfl
theorem cs_8_11 : mi_cs 8 11 62 := Or.inl (mi_in 339 (by decide +kernel) rfl)
theorem cs_8_27 : mi_cs 8 27 64 := Or.inl (mi_in 802 (by decide +kernel) rfl)
theorem cs_8_35 : mi_cs 8 35 81 := Or.inl (mi_in 803 (by decide +kernel) rfl)
theorem cs_8_39 : mi_cs 8 39 27 := Or.inl (mi_in 811 (by decide +kernel) rfl)
theorem cs_8_47 : mi_cs 8 47 65 := Or.inl (mi_in 813 (by decide +kernel) rfl)
theorem cs_8_53 : mi_cs 8 53 46 := Or.inl (mi_in 814 (by decide +kernel) rfl)
theorem cs_8_57 : mi_cs 8 57 191 := Or.inl (mi_in 815 (by decide +kernel) rfl)
theorem cs_8_62 : mi_cs 8 62 40 := Or.inl (mi_in 807 (by decide +kernel) rfl)
theorem cs_8_65 : mi_cs 8 65 44 := Or.inl (mi_in 808 (by decide +kernel) rfl)
theorem cs_8_68 : mi_cs 8 68 45 := Or.inl (mi_in 809 (by decide +kernel) rfl)
theorem cs_8_71 : mi_cs 8 71 50 := Or.inl (mi_in 810 (by decide +kernel) rfl)
theorem cs_8_74 : mi_cs 8 74 63 := Or.inl (mi_in 862 (by decide +kernel) rfl)
theorem os_9_3 : Cond.methodLink (mi_cn 9) 3 Lib.objectInit ∈ mi_gd := mi_in 211 (by decide +kernel) rfl
theorem cs_9_17 : mi_cs 9 17 62 := Or.inl (mi_in 214 (by decide +kernel) rfl)
theorem cs_9_20 : mi_cs 9 20 64 := Or.inl (mi_in 587 (by decide +kernel) rfl)
theorem cs_9_23 : mi_cs 9 23 70 := Or.inl (mi_in 768 (by decide +kernel) rfl)
theorem cs_9_27 : mi_cs 9 27 119 := Or.inr ⟨"PlaneDesk", List.mem_of_getElem? (i := 601) (by decide +kernel)⟩
theorem cs_9_31 : mi_cs 9 31 65 := Or.inl (mi_in 602 (by decide +kernel) rfl)
theorem cs_9_34 : mi_cs 9 34 66 := Or.inl (mi_in 790 (by decide +kernel) rfl)
theorem cs_9_38 : mi_cs 9 38 68 := Or.inl (mi_in 832 (by decide +kernel) rfl)
theorem cs_9_42 : mi_cs 9 42 67 := Or.inl (mi_in 788 (by decide +kernel) rfl)
theorem cs_9_45 : mi_cs 9 45 69 := Or.inl (mi_in 789 (by decide +kernel) rfl)
theorem os_10_3 : Cond.methodLink (mi_cn 10) 3 Lib.objectInit ∈ mi_gd := mi_in 312 (by decide +kernel) rfl
theorem cs_10_23 : mi_cs 10 23 62 := Or.inl (mi_in 314 (by decide +kernel) rfl)
theorem cs_10_30 : mi_cs 10 30 92 := Or.inl (mi_in 773 (by decide +kernel) rfl)
theorem cs_10_40 : mi_cs 10 40 94 := Or.inl (mi_in 780 (by decide +kernel) rfl)
theorem cs_10_44 : mi_cs 10 44 89 := Or.inl (mi_in 784 (by decide +kernel) rfl)
theorem cs_10_50 : mi_cs 10 50 48 := Or.inl (mi_in 791 (by decide +kernel) rfl)
theorem cs_10_57 : mi_cs 10 57 64 := Or.inl (mi_in 792 (by decide +kernel) rfl)
theorem cs_10_60 : mi_cs 10 60 93 := Or.inl (mi_in 793 (by decide +kernel) rfl)
theorem cs_10_63 : mi_cs 10 63 44 := Or.inl (mi_in 777 (by decide +kernel) rfl)
theorem cs_10_67 : mi_cs 10 67 45 := Or.inl (mi_in 778 (by decide +kernel) rfl)
theorem cs_10_70 : mi_cs 10 70 42 := Or.inl (mi_in 779 (by decide +kernel) rfl)
theorem cs_10_74 : mi_cs 10 74 65 := Or.inl (mi_in 797 (by decide +kernel) rfl)
theorem cs_10_77 : mi_cs 10 77 66 := Or.inl (mi_in 848 (by decide +kernel) rfl)
theorem os_11_3 : Cond.methodLink (mi_cn 11) 3 Lib.objectInit ∈ mi_gd := mi_in 110 (by decide +kernel) rfl
theorem cs_11_11 : mi_cs 11 11 39 := Or.inr ⟨"PlaneDesk", List.mem_of_getElem? (i := 115) (by decide +kernel)⟩
theorem cs_11_21 : mi_cs 11 21 26 := Or.inr ⟨"PlaneDesk", List.mem_of_getElem? (i := 149) (by decide +kernel)⟩
theorem cs_11_28 : mi_cs 11 28 83 := Or.inl (mi_in 306 (by decide +kernel) rfl)
theorem cs_11_35 : mi_cs 11 35 90 := Or.inr ⟨"PlaneDesk", List.mem_of_getElem? (i := 309) (by decide +kernel)⟩
theorem cs_11_42 : mi_cs 11 42 79 := Or.inr ⟨"PlaneDesk", List.mem_of_getElem? (i := 334) (by decide +kernel)⟩
theorem cs_11_49 : mi_cs 11 49 15 := Or.inr ⟨"PlaneDesk", List.mem_of_getElem? (i := 354) (by decide +kernel)⟩
theorem cs_11_56 : mi_cs 11 56 10 := Or.inr ⟨"PlaneDesk", List.mem_of_getElem? (i := 387) (by decide +kernel)⟩
theorem cs_11_65 : mi_cs 11 65 40 := Or.inl (mi_in 401 (by decide +kernel) rfl)
theorem cs_11_69 : mi_cs 11 69 115 := Or.inl (mi_in 456 (by decide +kernel) rfl)
theorem cs_11_72 : mi_cs 11 72 49 := Or.inl (mi_in 464 (by decide +kernel) rfl)
theorem cs_11_76 : mi_cs 11 76 50 := Or.inl (mi_in 468 (by decide +kernel) rfl)
theorem cs_11_83 : mi_cs 11 83 43 := Or.inl (mi_in 480 (by decide +kernel) rfl)
theorem cs_11_87 : mi_cs 11 87 51 := Or.inl (mi_in 484 (by decide +kernel) rfl)
theorem cs_11_90 : mi_cs 11 90 44 := Or.inl (mi_in 493 (by decide +kernel) rfl)
theorem cs_11_94 : mi_cs 11 94 45 := Or.inl (mi_in 497 (by decide +kernel) rfl)
theorem cs_11_101 : mi_cs 11 101 2 := Or.inl (mi_in 501 (by decide +kernel) rfl)
theorem cs_11_107 : mi_cs 11 107 1 := Or.inl (mi_in 562 (by decide +kernel) rfl)
theorem cs_11_116 : mi_cs 11 116 52 := Or.inl (mi_in 570 (by decide +kernel) rfl)
theorem cs_11_123 : mi_cs 11 123 116 := Or.inl (mi_in 574 (by decide +kernel) rfl)
theorem cs_11_127 : mi_cs 11 127 117 := Or.inl (mi_in 760 (by decide +kernel) rfl)
theorem cs_11_135 : mi_cs 11 135 80 := Or.inl (mi_in 798 (by decide +kernel) rfl)
theorem cs_11_141 : mi_cs 11 141 87 := Or.inl (mi_in 820 (by decide +kernel) rfl)
theorem cs_11_145 : mi_cs 11 145 88 := Or.inl (mi_in 828 (by decide +kernel) rfl)
theorem cs_11_149 : mi_cs 11 149 91 := Or.inl (mi_in 769 (by decide +kernel) rfl)
theorem cs_11_152 : mi_cs 11 152 95 := Or.inl (mi_in 844 (by decide +kernel) rfl)
theorem cs_11_159 : mi_cs 11 159 63 := Or.inl (mi_in 857 (by decide +kernel) rfl)
theorem cs_11_164 : mi_cs 11 164 82 := Or.inl (mi_in 858 (by decide +kernel) rfl)
theorem cs_11_170 : mi_cs 11 170 66 := Or.inl (mi_in 863 (by decide +kernel) rfl)
theorem cs_11_178 : mi_cs 11 178 41 := Or.inl (mi_in 869 (by decide +kernel) rfl)
theorem cs_11_181 : mi_cs 11 181 27 := Or.inl (mi_in 578 (by decide +kernel) rfl)
theorem cs_11_185 : mi_cs 11 185 118 := Or.inl (mi_in 881 (by decide +kernel) rfl)
theorem cs_11_188 : mi_cs 11 188 53 := Or.inl (mi_in 885 (by decide +kernel) rfl)
theorem cs_11_191 : mi_cs 11 191 16 := Or.inl (mi_in 893 (by decide +kernel) rfl)
theorem cs_11_198 : mi_cs 11 198 42 := Or.inl (mi_in 953 (by decide +kernel) rfl)
theorem cs_11_211 : mi_cs 11 211 67 := Or.inl (mi_in 954 (by decide +kernel) rfl)
theorem cs_11_216 : mi_cs 11 216 11 := Or.inl (mi_in 959 (by decide +kernel) rfl)
theorem cs_11_225 : mi_cs 11 225 85 := Or.inl (mi_in 764 (by decide +kernel) rfl)
theorem cs_11_228 : mi_cs 11 228 191 := Or.inl (mi_in 685 (by decide +kernel) rfl)
theorem os_12_1 : Cond.methodLink (mi_cn 12) 1 Lib.objectInit ∈ mi_gd := mi_in 995 (by decide +kernel) rfl
theorem cs_12_108 : mi_cs 12 108 124 := Or.inl (mi_in 1149 (by decide +kernel) rfl)
theorem cs_12_128 : mi_cs 12 128 126 := Or.inl (mi_in 1152 (by decide +kernel) rfl)
theorem cs_12_131 : mi_cs 12 131 125 := Or.inl (mi_in 1160 (by decide +kernel) rfl)
theorem cs_12_135 : mi_cs 12 135 128 := Or.inl (mi_in 1164 (by decide +kernel) rfl)
theorem cs_12_139 : mi_cs 12 139 129 := Or.inl (mi_in 1168 (by decide +kernel) rfl)
theorem cs_12_146 : mi_cs 12 146 135 := Or.inl (mi_in 1192 (by decide +kernel) rfl)
theorem cs_12_149 : mi_cs 12 149 133 := Or.inl (mi_in 1196 (by decide +kernel) rfl)
theorem cs_12_152 : mi_cs 12 152 134 := Or.inl (mi_in 1188 (by decide +kernel) rfl)
theorem cs_12_155 : mi_cs 12 155 136 := Or.inl (mi_in 1200 (by decide +kernel) rfl)
theorem cs_12_158 : mi_cs 12 158 138 := Or.inl (mi_in 1204 (by decide +kernel) rfl)
theorem cs_12_167 : mi_cs 12 167 139 := Or.inl (mi_in 1248 (by decide +kernel) rfl)
theorem cs_12_173 : mi_cs 12 173 143 := Or.inl (mi_in 1240 (by decide +kernel) rfl)
theorem cs_12_177 : mi_cs 12 177 142 := Or.inl (mi_in 1244 (by decide +kernel) rfl)
theorem cs_12_181 : mi_cs 12 181 144 := Or.inl (mi_in 1252 (by decide +kernel) rfl)
theorem cs_12_199 : mi_cs 12 199 147 := Or.inl (mi_in 1268 (by decide +kernel) rfl)
theorem cs_12_203 : mi_cs 12 203 148 := Or.inl (mi_in 1264 (by decide +kernel) rfl)
theorem cs_12_207 : mi_cs 12 207 151 := Or.inl (mi_in 1276 (by decide +kernel) rfl)
theorem cs_12_210 : mi_cs 12 210 141 := Or.inl (mi_in 1232 (by decide +kernel) rfl)
theorem cs_12_213 : mi_cs 12 213 145 := Or.inl (mi_in 1236 (by decide +kernel) rfl)
theorem cs_12_216 : mi_cs 12 216 146 := Or.inl (mi_in 1256 (by decide +kernel) rfl)
theorem cs_12_219 : mi_cs 12 219 149 := Or.inl (mi_in 1260 (by decide +kernel) rfl)
theorem cs_12_222 : mi_cs 12 222 150 := Or.inl (mi_in 1272 (by decide +kernel) rfl)
theorem cs_12_225 : mi_cs 12 225 137 := Or.inl (mi_in 1184 (by decide +kernel) rfl)
theorem cs_12_228 : mi_cs 12 228 140 := Or.inl (mi_in 1224 (by decide +kernel) rfl)
theorem cs_12_231 : mi_cs 12 231 152 := Or.inl (mi_in 1228 (by decide +kernel) rfl)
theorem cs_12_234 : mi_cs 12 234 154 := Or.inl (mi_in 1280 (by decide +kernel) rfl)
theorem cs_12_237 : mi_cs 12 237 155 := Or.inl (mi_in 1284 (by decide +kernel) rfl)
theorem cs_12_240 : mi_cs 12 240 132 := Or.inl (mi_in 1180 (by decide +kernel) rfl)
theorem cs_12_243 : mi_cs 12 243 153 := Or.inl (mi_in 1220 (by decide +kernel) rfl)
theorem cs_12_247 : mi_cs 12 247 158 := Or.inl (mi_in 1212 (by decide +kernel) rfl)
theorem cs_12_250 : mi_cs 12 250 156 := Or.inl (mi_in 1216 (by decide +kernel) rfl)
theorem cs_12_254 : mi_cs 12 254 168 := Or.inl (mi_in 1292 (by decide +kernel) rfl)
theorem cs_12_257 : mi_cs 12 257 161 := Or.inl (mi_in 1312 (by decide +kernel) rfl)
theorem cs_12_260 : mi_cs 12 260 164 := Or.inl (mi_in 1304 (by decide +kernel) rfl)
theorem cs_12_263 : mi_cs 12 263 165 := Or.inl (mi_in 1308 (by decide +kernel) rfl)
theorem cs_12_269 : mi_cs 12 269 166 := Or.inl (mi_in 1300 (by decide +kernel) rfl)
theorem cs_12_272 : mi_cs 12 272 167 := Or.inl (mi_in 1296 (by decide +kernel) rfl)
theorem cs_12_275 : mi_cs 12 275 171 := Or.inl (mi_in 1341 (by decide +kernel) rfl)
theorem cs_12_278 : mi_cs 12 278 172 := Or.inl (mi_in 1337 (by decide +kernel) rfl)
theorem cs_12_281 : mi_cs 12 281 174 := Or.inl (mi_in 1349 (by decide +kernel) rfl)
theorem cs_12_288 : mi_cs 12 288 177 := Or.inl (mi_in 1383 (by decide +kernel) rfl)
theorem cs_12_294 : mi_cs 12 294 179 := Or.inl (mi_in 1375 (by decide +kernel) rfl)
theorem cs_12_297 : mi_cs 12 297 180 := Or.inl (mi_in 1379 (by decide +kernel) rfl)
theorem cs_12_300 : mi_cs 12 300 169 := Or.inl (mi_in 1366 (by decide +kernel) rfl)
theorem cs_12_303 : mi_cs 12 303 178 := Or.inl (mi_in 1367 (by decide +kernel) rfl)
theorem cs_12_306 : mi_cs 12 306 181 := Or.inl (mi_in 1371 (by decide +kernel) rfl)
theorem cs_12_310 : mi_cs 12 310 184 := Or.inl (mi_in 1391 (by decide +kernel) rfl)
theorem cs_12_314 : mi_cs 12 314 183 := Or.inl (mi_in 1395 (by decide +kernel) rfl)
theorem cs_12_317 : mi_cs 12 317 160 := Or.inl (mi_in 1361 (by decide +kernel) rfl)
theorem cs_12_320 : mi_cs 12 320 182 := Or.inl (mi_in 1362 (by decide +kernel) rfl)
theorem cs_12_323 : mi_cs 12 323 185 := Or.inl (mi_in 1387 (by decide +kernel) rfl)
theorem cs_12_326 : mi_cs 12 326 188 := Or.inl (mi_in 1407 (by decide +kernel) rfl)
def mi_CSL_0 : List (Nat × Nat × Nat) := [(0, 29, 62), (0, 48, 121), (0, 52, 3), (0, 59, 44), (0, 63, 45), (0, 66, 6), (0, 70, 9), (0, 74, 64), (0, 77, 4), (0, 81, 63), (0, 85, 66), (0, 88, 46), (0, 91, 119), (0, 95, 120), (0, 98, 65), (0, 101, 5), (0, 105, 7), (0, 108, 8), (1, 17, 62), (1, 24, 12), (1, 28, 63), (1, 32, 66), (1, 36, 46), (1, 41, 14), (1, 44, 119), (1, 48, 120), (1, 61, 64), (1, 64, 13), (1, 68, 65), (1, 71, 191), (1, 76, 121), (1, 80, 122), (2, 23, 62), (2, 39, 44), (2, 45, 45), (2, 48, 19), (2, 52, 120), (2, 55, 66), (2, 58, 18), (2, 62, 17)]
theorem mi_CSL_0_ok : ∀ q ∈ mi_CSL_0, mi_cs q.1 q.2.1 q.2.2 := List.forall_mem_cons.mpr ⟨cs_0_29, List.forall_mem_cons.mpr ⟨cs_0_48, List.forall_mem_cons.mpr ⟨cs_0_52, List.forall_mem_cons.mpr ⟨cs_0_59, List.forall_mem_cons.mpr ⟨cs_0_63, List.forall_mem_cons.mpr ⟨cs_0_66, List.forall_mem_cons.mpr ⟨cs_0_70, List.forall_mem_cons.mpr ⟨cs_0_74, List.forall_mem_cons.mpr ⟨cs_0_77, List.forall_mem_cons.mpr ⟨cs_0_81, List.forall_mem_cons.mpr ⟨cs_0_85, List.forall_mem_cons.mpr ⟨cs_0_88, List.forall_mem_cons.mpr ⟨cs_0_91, List.forall_mem_cons.mpr ⟨cs_0_95, List.forall_mem_cons.mpr ⟨cs_0_98, List.forall_mem_cons.mpr ⟨cs_0_101, List.forall_mem_cons.mpr ⟨cs_0_105, List.forall_mem_cons.mpr ⟨cs_0_108, List.forall_mem_cons.mpr ⟨cs_1_17, List.forall_mem_cons.mpr ⟨cs_1_24, List.forall_mem_cons.mpr ⟨cs_1_28, List.forall_mem_cons.mpr ⟨cs_1_32, List.forall_mem_cons.mpr ⟨cs_1_36, List.forall_mem_cons.mpr ⟨cs_1_41, List.forall_mem_cons.mpr ⟨cs_1_44, List.forall_mem_cons.mpr ⟨cs_1_48, List.forall_mem_cons.mpr ⟨cs_1_61, List.forall_mem_cons.mpr ⟨cs_1_64, List.forall_mem_cons.mpr ⟨cs_1_68, List.forall_mem_cons.mpr ⟨cs_1_71, List.forall_mem_cons.mpr ⟨cs_1_76, List.forall_mem_cons.mpr ⟨cs_1_80, List.forall_mem_cons.mpr ⟨cs_2_23, List.forall_mem_cons.mpr ⟨cs_2_39, List.forall_mem_cons.mpr ⟨cs_2_45, List.forall_mem_cons.mpr ⟨cs_2_48, List.forall_mem_cons.mpr ⟨cs_2_52, List.forall_mem_cons.mpr ⟨cs_2_55, List.forall_mem_cons.mpr ⟨cs_2_58, List.forall_mem_cons.mpr ⟨cs_2_62, fun _ h => absurd h List.not_mem_nil⟩⟩⟩⟩⟩⟩⟩⟩⟩⟩⟩⟩⟩⟩⟩⟩⟩⟩⟩⟩⟩⟩⟩⟩⟩⟩⟩⟩⟩⟩⟩⟩⟩⟩⟩⟩⟩⟩⟩⟩
def mi_CSL_1 : List (Nat × Nat × Nat) := [(2, 65, 63), (2, 69, 22), (2, 73, 64), (2, 76, 65), (2, 79, 119), (2, 87, 20), (2, 91, 21), (2, 95, 72), (2, 99, 74), (2, 102, 46), (2, 105, 89), (2, 111, 71), (2, 115, 70), (2, 118, 48), (2, 122, 23), (2, 125, 24), (2, 129, 25), (2, 132, 121), (3, 11, 0), (3, 20, 83), (3, 27, 39), (3, 37, 54), (3, 44, 75), (3, 53, 2), (3, 57, 84), (3, 64, 28), (3, 71, 44), (3, 75, 45), (3, 78, 86), (3, 82, 29), (3, 85, 30), (3, 89, 36), (3, 95, 40), (3, 99, 1), (3, 102, 50), (3, 106, 120), (3, 109, 76), (3, 117, 60), (3, 120, 32), (3, 123, 33)]
theorem mi_CSL_1_ok : ∀ q ∈ mi_CSL_1, mi_cs q.1 q.2.1 q.2.2 := List.forall_mem_cons.mpr ⟨cs_2_65, List.forall_mem_cons.mpr ⟨cs_2_69, List.forall_mem_cons.mpr ⟨cs_2_73, List.forall_mem_cons.mpr ⟨cs_2_76, List.forall_mem_cons.mpr ⟨cs_2_79, List.forall_mem_cons.mpr ⟨cs_2_87, List.forall_mem_cons.mpr ⟨cs_2_91, List.forall_mem_cons.mpr ⟨cs_2_95, List.forall_mem_cons.mpr ⟨cs_2_99, List.forall_mem_cons.mpr ⟨cs_2_102, List.forall_mem_cons.mpr ⟨cs_2_105, List.forall_mem_cons.mpr ⟨cs_2_111, List.forall_mem_cons.mpr ⟨cs_2_115, List.forall_mem_cons.mpr ⟨cs_2_118, List.forall_mem_cons.mpr ⟨cs_2_122, List.forall_mem_cons.mpr ⟨cs_2_125, List.forall_mem_cons.mpr ⟨cs_2_129, List.forall_mem_cons.mpr ⟨cs_2_132, List.forall_mem_cons.mpr ⟨cs_3_11, List.forall_mem_cons.mpr ⟨cs_3_20, List.forall_mem_cons.mpr ⟨cs_3_27, List.forall_mem_cons.mpr ⟨cs_3_37, List.forall_mem_cons.mpr ⟨cs_3_44, List.forall_mem_cons.mpr ⟨cs_3_53, List.forall_mem_cons.mpr ⟨cs_3_57, List.forall_mem_cons.mpr ⟨cs_3_64, List.forall_mem_cons.mpr ⟨cs_3_71, List.forall_mem_cons.mpr ⟨cs_3_75, List.forall_mem_cons.mpr ⟨cs_3_78, List.forall_mem_cons.mpr ⟨cs_3_82, List.forall_mem_cons.mpr ⟨cs_3_85, List.forall_mem_cons.mpr ⟨cs_3_89, List.forall_mem_cons.mpr ⟨cs_3_95, List.forall_mem_cons.mpr ⟨cs_3_99, List.forall_mem_cons.mpr ⟨cs_3_102, List.forall_mem_cons.mpr ⟨cs_3_106, List.forall_mem_cons.mpr ⟨cs_3_109, List.forall_mem_cons.mpr ⟨cs_3_117, List.forall_mem_cons.mpr ⟨cs_3_120, List.forall_mem_cons.mpr ⟨cs_3_123, fun _ h => absurd h List.not_mem_nil⟩⟩⟩⟩⟩⟩⟩⟩⟩⟩⟩⟩⟩⟩⟩⟩⟩⟩⟩⟩⟩⟩⟩⟩⟩⟩⟩⟩⟩⟩⟩⟩⟩⟩⟩⟩⟩⟩⟩⟩
def mi_CSL_2 : List (Nat × Nat × Nat) := [(3, 129, 122), (3, 132, 31), (3, 141, 61), (3, 148, 77), (3, 151, 63), (3, 157, 66), (3, 160, 74), (3, 167, 48), (3, 171, 35), (3, 174, 34), (3, 177, 59), (3, 181, 47), (3, 185, 37), (3, 188, 38), (3, 191, 56), (3, 193, 57), (3, 195, 42), (3, 199, 58), (3, 202, 46), (3, 205, 191), (4, 37, 192), (4, 43, 40), (4, 47, 44), (4, 51, 45), (4, 54, 50), (4, 58, 43), (4, 62, 121), (4, 66, 49), (4, 69, 120), (5, 21, 62), (5, 32, 55), (5, 36, 63), (5, 40, 66), (5, 44, 69), (5, 53, 64), (5, 56, 65), (5, 59, 72), (5, 63, 71), (5, 67, 74), (5, 69, 70)]
theorem mi_CSL_2_ok : ∀ q ∈ mi_CSL_2, mi_cs q.1 q.2.1 q.2.2 := List.forall_mem_cons.mpr ⟨cs_3_129, List.forall_mem_cons.mpr ⟨cs_3_132, List.forall_mem_cons.mpr ⟨cs_3_141, List.forall_mem_cons.mpr ⟨cs_3_148, List.forall_mem_cons.mpr ⟨cs_3_151, List.forall_mem_cons.mpr ⟨cs_3_157, List.forall_mem_cons.mpr ⟨cs_3_160, List.forall_mem_cons.mpr ⟨cs_3_167, List.forall_mem_cons.mpr ⟨cs_3_171, List.forall_mem_cons.mpr ⟨cs_3_174, List.forall_mem_cons.mpr ⟨cs_3_177, List.forall_mem_cons.mpr ⟨cs_3_181, List.forall_mem_cons.mpr ⟨cs_3_185, List.forall_mem_cons.mpr ⟨cs_3_188, List.forall_mem_cons.mpr ⟨cs_3_191, List.forall_mem_cons.mpr ⟨cs_3_193, List.forall_mem_cons.mpr ⟨cs_3_195, List.forall_mem_cons.mpr ⟨cs_3_199, List.forall_mem_cons.mpr ⟨cs_3_202, List.forall_mem_cons.mpr ⟨cs_3_205, List.forall_mem_cons.mpr ⟨cs_4_37, List.forall_mem_cons.mpr ⟨cs_4_43, List.forall_mem_cons.mpr ⟨cs_4_47, List.forall_mem_cons.mpr ⟨cs_4_51, List.forall_mem_cons.mpr ⟨cs_4_54, List.forall_mem_cons.mpr ⟨cs_4_58, List.forall_mem_cons.mpr ⟨cs_4_62, List.forall_mem_cons.mpr ⟨cs_4_66, List.forall_mem_cons.mpr ⟨cs_4_69, List.forall_mem_cons.mpr ⟨cs_5_21, List.forall_mem_cons.mpr ⟨cs_5_32, List.forall_mem_cons.mpr ⟨cs_5_36, List.forall_mem_cons.mpr ⟨cs_5_40, List.forall_mem_cons.mpr ⟨cs_5_44, List.forall_mem_cons.mpr ⟨cs_5_53, List.forall_mem_cons.mpr ⟨cs_5_56, List.forall_mem_cons.mpr ⟨cs_5_59, List.forall_mem_cons.mpr ⟨cs_5_63, List.forall_mem_cons.mpr ⟨cs_5_67, List.forall_mem_cons.mpr ⟨cs_5_69, fun _ h => absurd h List.not_mem_nil⟩⟩⟩⟩⟩⟩⟩⟩⟩⟩⟩⟩⟩⟩⟩⟩⟩⟩⟩⟩⟩⟩⟩⟩⟩⟩⟩⟩⟩⟩⟩⟩⟩⟩⟩⟩⟩⟩⟩⟩
def mi_CSL_3 : List (Nat × Nat × Nat) := [(5, 72, 73), (6, 25, 64), (6, 28, 66), (6, 32, 65), (6, 36, 67), (6, 39, 69), (6, 42, 120), (7, 17, 62), (7, 31, 64), (7, 34, 65), (7, 37, 63), (7, 41, 66), (7, 45, 46), (7, 50, 121), (7, 54, 78), (7, 57, 119), (8, 11, 62), (8, 27, 64), (8, 35, 81), (8, 39, 27), (8, 47, 65), (8, 53, 46), (8, 57, 191), (8, 62, 40), (8, 65, 44), (8, 68, 45), (8, 71, 50), (8, 74, 63), (9, 17, 62), (9, 20, 64), (9, 23, 70), (9, 27, 119), (9, 31, 65), (9, 34, 66), (9, 38, 68), (9, 42, 67), (9, 45, 69), (10, 23, 62), (10, 30, 92), (10, 40, 94)]
theorem mi_CSL_3_ok : ∀ q ∈ mi_CSL_3, mi_cs q.1 q.2.1 q.2.2 := List.forall_mem_cons.mpr ⟨cs_5_72, List.forall_mem_cons.mpr ⟨cs_6_25, List.forall_mem_cons.mpr ⟨cs_6_28, List.forall_mem_cons.mpr ⟨cs_6_32, List.forall_mem_cons.mpr ⟨cs_6_36, List.forall_mem_cons.mpr ⟨cs_6_39, List.forall_mem_cons.mpr ⟨cs_6_42, List.forall_mem_cons.mpr ⟨cs_7_17, List.forall_mem_cons.mpr ⟨cs_7_31, List.forall_mem_cons.mpr ⟨cs_7_34, List.forall_mem_cons.mpr ⟨cs_7_37, List.forall_mem_cons.mpr ⟨cs_7_41, List.forall_mem_cons.mpr ⟨cs_7_45, List.forall_mem_cons.mpr ⟨cs_7_50, List.forall_mem_cons.mpr ⟨cs_7_54, List.forall_mem_cons.mpr ⟨cs_7_57, List.forall_mem_cons.mpr ⟨cs_8_11, List.forall_mem_cons.mpr ⟨cs_8_27, List.forall_mem_cons.mpr ⟨cs_8_35, List.forall_mem_cons.mpr ⟨cs_8_39, List.forall_mem_cons.mpr ⟨cs_8_47, List.forall_mem_cons.mpr ⟨cs_8_53, List.forall_mem_cons.mpr ⟨cs_8_57, List.forall_mem_cons.mpr ⟨cs_8_62, List.forall_mem_cons.mpr ⟨cs_8_65, List.forall_mem_cons.mpr ⟨cs_8_68, List.forall_mem_cons.mpr ⟨cs_8_71, List.forall_mem_cons.mpr ⟨cs_8_74, List.forall_mem_cons.mpr ⟨cs_9_17, List.forall_mem_cons.mpr ⟨cs_9_20, List.forall_mem_cons.mpr ⟨cs_9_23, List.forall_mem_cons.mpr ⟨cs_9_27, List.forall_mem_cons.mpr ⟨cs_9_31, List.forall_mem_cons.mpr ⟨cs_9_34, List.forall_mem_cons.mpr ⟨cs_9_38, List.forall_mem_cons.mpr ⟨cs_9_42, List.forall_mem_cons.mpr ⟨cs_9_45, List.forall_mem_cons.mpr ⟨cs_10_23, List.forall_mem_cons.mpr ⟨cs_10_30, List.forall_mem_cons.mpr ⟨cs_10_40, fun _ h => absurd h List.not_mem_nil⟩⟩⟩⟩⟩⟩⟩⟩⟩⟩⟩⟩⟩⟩⟩⟩⟩⟩⟩⟩⟩⟩⟩⟩⟩⟩⟩⟩⟩⟩⟩⟩⟩⟩⟩⟩⟩⟩⟩⟩
def mi_CSL_4 : List (Nat × Nat × Nat) := [(10, 44, 89), (10, 50, 48), (10, 57, 64), (10, 60, 93), (10, 63, 44), (10, 67, 45), (10, 70, 42), (10, 74, 65), (10, 77, 66), (11, 11, 39), (11, 21, 26), (11, 28, 83), (11, 35, 90), (11, 42, 79), (11, 49, 15), (11, 56, 10), (11, 65, 40), (11, 69, 115), (11, 72, 49), (11, 76, 50), (11, 83, 43), (11, 87, 51), (11, 90, 44), (11, 94, 45), (11, 101, 2), (11, 107, 1), (11, 116, 52), (11, 123, 116), (11, 127, 117), (11, 135, 80), (11, 141, 87), (11, 145, 88), (11, 149, 91), (11, 152, 95), (11, 159, 63), (11, 164, 82), (11, 170, 66), (11, 178, 41), (11, 181, 27), (11, 185, 118)]
theorem mi_CSL_4_ok : ∀ q ∈ mi_CSL_4, mi_cs q.1 q.2.1 q.2.2 := List.forall_mem_cons.mpr ⟨cs_10_44, List.forall_mem_cons.mpr ⟨cs_10_50, List.forall_mem_cons.mpr ⟨cs_10_57, List.forall_mem_cons.mpr ⟨cs_10_60, List.forall_mem_cons.mpr ⟨cs_10_63, List.forall_mem_cons.mpr ⟨cs_10_67, List.forall_mem_cons.mpr ⟨cs_10_70, List.forall_mem_cons.mpr ⟨cs_10_74, List.forall_mem_cons.mpr ⟨cs_10_77, List.forall_mem_cons.mpr ⟨cs_11_11, List.forall_mem_cons.mpr ⟨cs_11_21, List.forall_mem_cons.mpr ⟨cs_11_28, List.forall_mem_cons.mpr ⟨cs_11_35, List.forall_mem_cons.mpr ⟨cs_11_42, List.forall_mem_cons.mpr ⟨cs_11_49, List.forall_mem_cons.mpr ⟨cs_11_56, List.forall_mem_cons.mpr ⟨cs_11_65, List.forall_mem_cons.mpr ⟨cs_11_69, List.forall_mem_cons.mpr ⟨cs_11_72, List.forall_mem_cons.mpr ⟨cs_11_76, List.forall_mem_cons.mpr ⟨cs_11_83, List.forall_mem_cons.mpr ⟨cs_11_87, List.forall_mem_cons.mpr ⟨cs_11_90, List.forall_mem_cons.mpr ⟨cs_11_94, List.forall_mem_cons.mpr ⟨cs_11_101, List.forall_mem_cons.mpr ⟨cs_11_107, List.forall_mem_cons.mpr ⟨cs_11_116, List.forall_mem_cons.mpr ⟨cs_11_123, List.forall_mem_cons.mpr ⟨cs_11_127, List.forall_mem_cons.mpr ⟨cs_11_135, List.forall_mem_cons.mpr ⟨cs_11_141, List.forall_mem_cons.mpr ⟨cs_11_145, List.forall_mem_cons.mpr ⟨cs_11_149, List.forall_mem_cons.mpr ⟨cs_11_152, List.forall_mem_cons.mpr ⟨cs_11_159, List.forall_mem_cons.mpr ⟨cs_11_164, List.forall_mem_cons.mpr ⟨cs_11_170, List.forall_mem_cons.mpr ⟨cs_11_178, List.forall_mem_cons.mpr ⟨cs_11_181, List.forall_mem_cons.mpr ⟨cs_11_185, fun _ h => absurd h List.not_mem_nil⟩⟩⟩⟩⟩⟩⟩⟩⟩⟩⟩⟩⟩⟩⟩⟩⟩⟩⟩⟩⟩⟩⟩⟩⟩⟩⟩⟩⟩⟩⟩⟩⟩⟩⟩⟩⟩⟩⟩⟩
def mi_CSL_5 : List (Nat × Nat × Nat) := [(11, 188, 53), (11, 191, 16), (11, 198, 42), (11, 211, 67), (11, 216, 11), (11, 225, 85), (11, 228, 191), (12, 108, 124), (12, 128, 126), (12, 131, 125), (12, 135, 128), (12, 139, 129), (12, 146, 135), (12, 149, 133), (12, 152, 134), (12, 155, 136), (12, 158, 138), (12, 167, 139), (12, 173, 143), (12, 177, 142), (12, 181, 144), (12, 199, 147), (12, 203, 148), (12, 207, 151), (12, 210, 141), (12, 213, 145), (12, 216, 146), (12, 219, 149), (12, 222, 150), (12, 225, 137), (12, 228, 140), (12, 231, 152), (12, 234, 154), (12, 237, 155), (12, 240, 132), (12, 243, 153), (12, 247, 158), (12, 250, 156), (12, 254, 168), (12, 257, 161)]
theorem mi_CSL_5_ok : ∀ q ∈ mi_CSL_5, mi_cs q.1 q.2.1 q.2.2 := List.forall_mem_cons.mpr ⟨cs_11_188, List.forall_mem_cons.mpr ⟨cs_11_191, List.forall_mem_cons.mpr ⟨cs_11_198, List.forall_mem_cons.mpr ⟨cs_11_211, List.forall_mem_cons.mpr ⟨cs_11_216, List.forall_mem_cons.mpr ⟨cs_11_225, List.forall_mem_cons.mpr ⟨cs_11_228, List.forall_mem_cons.mpr ⟨cs_12_108, List.forall_mem_cons.mpr ⟨cs_12_128, List.forall_mem_cons.mpr ⟨cs_12_131, List.forall_mem_cons.mpr ⟨cs_12_135, List.forall_mem_cons.mpr ⟨cs_12_139, List.forall_mem_cons.mpr ⟨cs_12_146, List.forall_mem_cons.mpr ⟨cs_12_149, List.forall_mem_cons.mpr ⟨cs_12_152, List.forall_mem_cons.mpr ⟨cs_12_155, List.forall_mem_cons.mpr ⟨cs_12_158, List.forall_mem_cons.mpr ⟨cs_12_167, List.forall_mem_cons.mpr ⟨cs_12_173, List.forall_mem_cons.mpr ⟨cs_12_177, List.forall_mem_cons.mpr ⟨cs_12_181, List.forall_mem_cons.mpr ⟨cs_12_199, List.forall_mem_cons.mpr ⟨cs_12_203, List.forall_mem_cons.mpr ⟨cs_12_207, List.forall_mem_cons.mpr ⟨cs_12_210, List.forall_mem_cons.mpr ⟨cs_12_213, List.forall_mem_cons.mpr ⟨cs_12_216, List.forall_mem_cons.mpr ⟨cs_12_219, List.forall_mem_cons.mpr ⟨cs_12_222, List.forall_mem_cons.mpr ⟨cs_12_225, List.forall_mem_cons.mpr ⟨cs_12_228, List.forall_mem_cons.mpr ⟨cs_12_231, List.forall_mem_cons.mpr ⟨cs_12_234, List.forall_mem_cons.mpr ⟨cs_12_237, List.forall_mem_cons.mpr ⟨cs_12_240, List.forall_mem_cons.mpr ⟨cs_12_243, List.forall_mem_cons.mpr ⟨cs_12_247, List.forall_mem_cons.mpr ⟨cs_12_250, List.forall_mem_cons.mpr ⟨cs_12_254, List.forall_mem_cons.mpr ⟨cs_12_257, fun _ h => absurd h List.not_mem_nil⟩⟩⟩⟩⟩⟩⟩⟩⟩⟩⟩⟩⟩⟩⟩⟩⟩⟩⟩⟩⟩⟩⟩⟩⟩⟩⟩⟩⟩⟩⟩⟩⟩⟩⟩⟩⟩⟩⟩⟩
def mi_CSL_6 : List (Nat × Nat × Nat) := [(12, 260, 164), (12, 263, 165), (12, 269, 166), (12, 272, 167), (12, 275, 171), (12, 278, 172), (12, 281, 174), (12, 288, 177), (12, 294, 179), (12, 297, 180), (12, 300, 169), (12, 303, 178), (12, 306, 181), (12, 310, 184), (12, 314, 183), (12, 317, 160), (12, 320, 182), (12, 323, 185), (12, 326, 188)]
theorem mi_CSL_6_ok : ∀ q ∈ mi_CSL_6, mi_cs q.1 q.2.1 q.2.2 := List.forall_mem_cons.mpr ⟨cs_12_260, List.forall_mem_cons.mpr ⟨cs_12_263, List.forall_mem_cons.mpr ⟨cs_12_269, List.forall_mem_cons.mpr ⟨cs_12_272, List.forall_mem_cons.mpr ⟨cs_12_275, List.forall_mem_cons.mpr ⟨cs_12_278, List.forall_mem_cons.mpr ⟨cs_12_281, List.forall_mem_cons.mpr ⟨cs_12_288, List.forall_mem_cons.mpr ⟨cs_12_294, List.forall_mem_cons.mpr ⟨cs_12_297, List.forall_mem_cons.mpr ⟨cs_12_300, List.forall_mem_cons.mpr ⟨cs_12_303, List.forall_mem_cons.mpr ⟨cs_12_306, List.forall_mem_cons.mpr ⟨cs_12_310, List.forall_mem_cons.mpr ⟨cs_12_314, List.forall_mem_cons.mpr ⟨cs_12_317, List.forall_mem_cons.mpr ⟨cs_12_320, List.forall_mem_cons.mpr ⟨cs_12_323, List.forall_mem_cons.mpr ⟨cs_12_326, fun _ h => absurd h List.not_mem_nil⟩⟩⟩⟩⟩⟩⟩⟩⟩⟩⟩⟩⟩⟩⟩⟩⟩⟩⟩
def mi_CSL : List (Nat × Nat × Nat) := mi_CSL_0 ++ (mi_CSL_1 ++ (mi_CSL_2 ++ (mi_CSL_3 ++ (mi_CSL_4 ++ (mi_CSL_5 ++ (mi_CSL_6))))))
theorem mi_CSL_ok : ∀ q ∈ mi_CSL, mi_cs q.1 q.2.1 q.2.2 := List.forall_mem_append.mpr ⟨mi_CSL_0_ok, List.forall_mem_append.mpr ⟨mi_CSL_1_ok, List.forall_mem_append.mpr ⟨mi_CSL_2_ok, List.forall_mem_append.mpr ⟨mi_CSL_3_ok, List.forall_mem_append.mpr ⟨mi_CSL_4_ok, List.forall_mem_append.mpr ⟨mi_CSL_5_ok, mi_CSL_6_ok⟩⟩⟩⟩⟩⟩
def mi_OSL_0 : List (Nat × Nat) := [(0, 3), (1, 3), (2, 3), (3, 3), (4, 3), (5, 3), (6, 3), (7, 3), (8, 3), (9, 3), (10, 3), (11, 3), (12, 1)]
theorem mi_OSL_0_ok : ∀ q ∈ mi_OSL_0, Cond.methodLink (mi_cn q.1) q.2 Lib.objectInit ∈ mi_gd := List.forall_mem_cons.mpr ⟨os_0_3, List.forall_mem_cons.mpr ⟨os_1_3, List.forall_mem_cons.mpr ⟨os_2_3, List.forall_mem_cons.mpr ⟨os_3_3, List.forall_mem_cons.mpr ⟨os_4_3, List.forall_mem_cons.mpr ⟨os_5_3, List.forall_mem_cons.mpr ⟨os_6_3, List.forall_mem_cons.mpr ⟨os_7_3, List.forall_mem_cons.mpr ⟨os_8_3, List.forall_mem_cons.mpr ⟨os_9_3, List.forall_mem_cons.mpr ⟨os_10_3, List.forall_mem_cons.mpr ⟨os_11_3, List.forall_mem_cons.mpr ⟨os_12_1, fun _ h => absurd h List.not_mem_nil⟩⟩⟩⟩⟩⟩⟩⟩⟩⟩⟩⟩⟩
def mi_OSL : List (Nat × Nat) := mi_OSL_0
theorem mi_OSL_ok : ∀ q ∈ mi_OSL, Cond.methodLink (mi_cn q.1) q.2 Lib.objectInit ∈ mi_gd := mi_OSL_0_ok
theorem xs_1_51 : Cond.methodLink (mi_cn 1) 51 Lib.Math.max.name ∈ mi_gd := mi_in 985 (by decide +kernel) rfl
theorem xs_4_27 : Cond.methodLink (mi_cn 4) 27 Lib.Math.max.name ∈ mi_gd := mi_in 408 (by decide +kernel) rfl
theorem xs_5_47 : Cond.methodLink (mi_cn 5) 47 Lib.Math.max.name ∈ mi_gd := mi_in 681 (by decide +kernel) rfl
theorem xs_6_9 : Cond.methodLink (mi_cn 6) 9 Lib.Math.max.name ∈ mi_gd := mi_in 165 (by decide +kernel) rfl
theorem xs_11_173 : Cond.methodLink (mi_cn 11) 173 Lib.Math.max.name ∈ mi_gd := mi_in 864 (by decide +kernel) rfl
def mi_XmaxL_0 : List (Nat × Nat) := [(1, 51), (4, 27), (5, 47), (6, 9), (11, 173)]
theorem mi_XmaxL_0_ok : ∀ q ∈ mi_XmaxL_0, Cond.methodLink (mi_cn q.1) q.2 Lib.Math.max.name ∈ mi_gd := List.forall_mem_cons.mpr ⟨xs_1_51, List.forall_mem_cons.mpr ⟨xs_4_27, List.forall_mem_cons.mpr ⟨xs_5_47, List.forall_mem_cons.mpr ⟨xs_6_9, List.forall_mem_cons.mpr ⟨xs_11_173, fun _ h => absurd h List.not_mem_nil⟩⟩⟩⟩⟩
def mi_XmaxL : List (Nat × Nat) := mi_XmaxL_0
theorem mi_XmaxL_ok : ∀ q ∈ mi_XmaxL, Cond.methodLink (mi_cn q.1) q.2 Lib.Math.max.name ∈ mi_gd := mi_XmaxL_0_ok
theorem xo_max : Cond.static Lib.Math.max.name ∈ mi_gd ∧ Cond.initialized "java/lang/Math" ∈ mi_gd ∧ Cond.code Lib.Math.max.name Lib.Math.max.code 2 (some .int) ∈ mi_gd := ⟨mi_in 166 (by decide +kernel) rfl, mi_in 94 (by decide +kernel) rfl, mi_in 167 (by decide +kernel) rfl⟩
theorem xs_4_21 : Cond.methodLink (mi_cn 4) 21 Lib.Math.min.name ∈ mi_gd := mi_in 405 (by decide +kernel) rfl
def mi_XminL_0 : List (Nat × Nat) := [(4, 21)]
theorem mi_XminL_0_ok : ∀ q ∈ mi_XminL_0, Cond.methodLink (mi_cn q.1) q.2 Lib.Math.min.name ∈ mi_gd := List.forall_mem_cons.mpr ⟨xs_4_21, fun _ h => absurd h List.not_mem_nil⟩
def mi_XminL : List (Nat × Nat) := mi_XminL_0
theorem mi_XminL_ok : ∀ q ∈ mi_XminL, Cond.methodLink (mi_cn q.1) q.2 Lib.Math.min.name ∈ mi_gd := mi_XminL_0_ok
theorem xo_min : Cond.static Lib.Math.min.name ∈ mi_gd ∧ Cond.initialized "java/lang/Math" ∈ mi_gd ∧ Cond.code Lib.Math.min.name Lib.Math.min.code 2 (some .int) ∈ mi_gd := ⟨mi_in 406 (by decide +kernel) rfl, mi_in 94 (by decide +kernel) rfl, mi_in 407 (by decide +kernel) rfl⟩
theorem ns_0_27 : ∃ q : vw_C, vwCl[6]? = some q ∧ Cond.classLink (mi_cn 0) 27 q.1 ∈ mi_gd := ⟨_, rfl, mi_in 159 (by decide +kernel) rfl⟩
theorem ns_1_15 : ∃ q : vw_C, vwCl[6]? = some q ∧ Cond.classLink (mi_cn 1) 15 q.1 ∈ mi_gd := ⟨_, rfl, mi_in 391 (by decide +kernel) rfl⟩
theorem ns_2_21 : ∃ q : vw_C, vwCl[6]? = some q ∧ Cond.classLink (mi_cn 2) 21 q.1 ∈ mi_gd := ⟨_, rfl, mi_in 358 (by decide +kernel) rfl⟩
theorem ns_3_9 : ∃ q : vw_C, vwCl[0]? = some q ∧ Cond.classLink (mi_cn 3) 9 q.1 ∈ mi_gd := ⟨_, rfl, mi_in 153 (by decide +kernel) rfl⟩
theorem ns_3_18 : ∃ q : vw_C, vwCl[9]? = some q ∧ Cond.classLink (mi_cn 3) 18 q.1 ∈ mi_gd := ⟨_, rfl, mi_in 206 (by decide +kernel) rfl⟩
theorem ns_3_25 : ∃ q : vw_C, vwCl[4]? = some q ∧ Cond.classLink (mi_cn 3) 25 q.1 ∈ mi_gd := ⟨_, rfl, mi_in 219 (by decide +kernel) rfl⟩
theorem ns_3_35 : ∃ q : vw_C, vwCl[5]? = some q ∧ Cond.classLink (mi_cn 3) 35 q.1 ∈ mi_gd := ⟨_, rfl, mi_in 221 (by decide +kernel) rfl⟩
theorem ns_3_42 : ∃ q : vw_C, vwCl[7]? = some q ∧ Cond.classLink (mi_cn 3) 42 q.1 ∈ mi_gd := ⟨_, rfl, mi_in 243 (by decide +kernel) rfl⟩
theorem ns_5_9 : ∃ q : vw_C, vwCl[6]? = some q ∧ Cond.classLink (mi_cn 5) 9 q.1 ∈ mi_gd := ⟨_, rfl, mi_in 227 (by decide +kernel) rfl⟩
theorem ns_7_15 : ∃ q : vw_C, vwCl[6]? = some q ∧ Cond.classLink (mi_cn 7) 15 q.1 ∈ mi_gd := ⟨_, rfl, mi_in 249 (by decide +kernel) rfl⟩
theorem ns_8_9 : ∃ q : vw_C, vwCl[6]? = some q ∧ Cond.classLink (mi_cn 8) 9 q.1 ∈ mi_gd := ⟨_, rfl, mi_in 338 (by decide +kernel) rfl⟩
theorem ns_9_9 : ∃ q : vw_C, vwCl[6]? = some q ∧ Cond.classLink (mi_cn 9) 9 q.1 ∈ mi_gd := ⟨_, rfl, mi_in 212 (by decide +kernel) rfl⟩
theorem ns_10_21 : ∃ q : vw_C, vwCl[6]? = some q ∧ Cond.classLink (mi_cn 10) 21 q.1 ∈ mi_gd := ⟨_, rfl, mi_in 313 (by decide +kernel) rfl⟩
theorem ns_11_9 : ∃ q : vw_C, vwCl[4]? = some q ∧ Cond.classLink (mi_cn 11) 9 q.1 ∈ mi_gd := ⟨_, rfl, mi_in 113 (by decide +kernel) rfl⟩
theorem ns_11_19 : ∃ q : vw_C, vwCl[3]? = some q ∧ Cond.classLink (mi_cn 11) 19 q.1 ∈ mi_gd := ⟨_, rfl, mi_in 147 (by decide +kernel) rfl⟩
theorem ns_11_26 : ∃ q : vw_C, vwCl[9]? = some q ∧ Cond.classLink (mi_cn 11) 26 q.1 ∈ mi_gd := ⟨_, rfl, mi_in 305 (by decide +kernel) rfl⟩
theorem ns_11_33 : ∃ q : vw_C, vwCl[10]? = some q ∧ Cond.classLink (mi_cn 11) 33 q.1 ∈ mi_gd := ⟨_, rfl, mi_in 307 (by decide +kernel) rfl⟩
theorem ns_11_40 : ∃ q : vw_C, vwCl[8]? = some q ∧ Cond.classLink (mi_cn 11) 40 q.1 ∈ mi_gd := ⟨_, rfl, mi_in 332 (by decide +kernel) rfl⟩
theorem ns_11_47 : ∃ q : vw_C, vwCl[2]? = some q ∧ Cond.classLink (mi_cn 11) 47 q.1 ∈ mi_gd := ⟨_, rfl, mi_in 352 (by decide +kernel) rfl⟩
theorem ns_11_54 : ∃ q : vw_C, vwCl[1]? = some q ∧ Cond.classLink (mi_cn 11) 54 q.1 ∈ mi_gd := ⟨_, rfl, mi_in 385 (by decide +kernel) rfl⟩
def mi_NSL_0 : List (Nat × Nat × Nat) := [(0, 27, 6), (1, 15, 6), (2, 21, 6), (3, 9, 0), (3, 18, 9), (3, 25, 4), (3, 35, 5), (3, 42, 7), (5, 9, 6), (7, 15, 6), (8, 9, 6), (9, 9, 6), (10, 21, 6), (11, 9, 4), (11, 19, 3), (11, 26, 9), (11, 33, 10), (11, 40, 8), (11, 47, 2), (11, 54, 1)]
theorem mi_NSL_0_ok : ∀ q ∈ mi_NSL_0, ∃ z : vw_C, vwCl[q.2.2]? = some z ∧ Cond.classLink (mi_cn q.1) q.2.1 z.1 ∈ mi_gd := List.forall_mem_cons.mpr ⟨ns_0_27, List.forall_mem_cons.mpr ⟨ns_1_15, List.forall_mem_cons.mpr ⟨ns_2_21, List.forall_mem_cons.mpr ⟨ns_3_9, List.forall_mem_cons.mpr ⟨ns_3_18, List.forall_mem_cons.mpr ⟨ns_3_25, List.forall_mem_cons.mpr ⟨ns_3_35, List.forall_mem_cons.mpr ⟨ns_3_42, List.forall_mem_cons.mpr ⟨ns_5_9, List.forall_mem_cons.mpr ⟨ns_7_15, List.forall_mem_cons.mpr ⟨ns_8_9, List.forall_mem_cons.mpr ⟨ns_9_9, List.forall_mem_cons.mpr ⟨ns_10_21, List.forall_mem_cons.mpr ⟨ns_11_9, List.forall_mem_cons.mpr ⟨ns_11_19, List.forall_mem_cons.mpr ⟨ns_11_26, List.forall_mem_cons.mpr ⟨ns_11_33, List.forall_mem_cons.mpr ⟨ns_11_40, List.forall_mem_cons.mpr ⟨ns_11_47, List.forall_mem_cons.mpr ⟨ns_11_54, fun _ h => absurd h List.not_mem_nil⟩⟩⟩⟩⟩⟩⟩⟩⟩⟩⟩⟩⟩⟩⟩⟩⟩⟩⟩⟩
def mi_NSL : List (Nat × Nat × Nat) := mi_NSL_0
theorem mi_NSL_ok : ∀ q ∈ mi_NSL, ∃ z : vw_C, vwCl[q.2.2]? = some z ∧ Cond.classLink (mi_cn q.1) q.2.1 z.1 ∈ mi_gd := mi_NSL_0_ok
theorem ks_long : Cond.constantLong (mi_cn 8) 45 (-1) ∈ mi_gd := mi_in 812 (by decide +kernel) rfl
theorem ks_13_265 : Cond.constant (mi_cn 13) 265 (Int32.ofNat 1431655765) ∈ mi_gd := mi_in 688 (by decide +kernel) rfl
theorem ks_13_266 : Cond.constant (mi_cn 13) 266 (Int32.ofNat 858993459) ∈ mi_gd := mi_in 689 (by decide +kernel) rfl
theorem ks_13_267 : Cond.constant (mi_cn 13) 267 (Int32.ofNat 252645135) ∈ mi_gd := mi_in 690 (by decide +kernel) rfl
def mi_KSL_0 : List (Nat × Nat × Nat) := [(13, 265, 1431655765), (13, 266, 858993459), (13, 267, 252645135)]
theorem mi_KSL_0_ok : ∀ q ∈ mi_KSL_0, Cond.constant (mi_cn q.1) q.2.1 (Int32.ofNat q.2.2) ∈ mi_gd := List.forall_mem_cons.mpr ⟨ks_13_265, List.forall_mem_cons.mpr ⟨ks_13_266, List.forall_mem_cons.mpr ⟨ks_13_267, fun _ h => absurd h List.not_mem_nil⟩⟩⟩
def mi_KSL : List (Nat × Nat × Nat) := mi_KSL_0
theorem mi_KSL_ok : ∀ q ∈ mi_KSL, Cond.constant (mi_cn q.1) q.2.1 (Int32.ofNat q.2.2) ∈ mi_gd := mi_KSL_0_ok
def mi_VSL_0 : List (Nat) := [1, 2, 3, 4, 5, 6, 7, 8, 9, 11, 12, 13, 14, 16, 17, 18, 19, 20, 21, 22, 23, 24, 25, 27, 28, 29, 30, 31, 32, 33, 34, 35, 36, 37, 38, 40, 41, 42, 43, 44]
theorem mi_VSL_0_ok : ∀ q ∈ mi_VSL_0, mi_inst q ∧ Cond.selects (mi_y q).cls (mi_y q) (mi_y q) ∈ mi_gd := List.forall_mem_cons.mpr ⟨⟨mk_1, ml_1⟩, List.forall_mem_cons.mpr ⟨⟨mk_2, ml_2⟩, List.forall_mem_cons.mpr ⟨⟨mk_3, ml_3⟩, List.forall_mem_cons.mpr ⟨⟨mk_4, ml_4⟩, List.forall_mem_cons.mpr ⟨⟨mk_5, ml_5⟩, List.forall_mem_cons.mpr ⟨⟨mk_6, ml_6⟩, List.forall_mem_cons.mpr ⟨⟨mk_7, ml_7⟩, List.forall_mem_cons.mpr ⟨⟨mk_8, ml_8⟩, List.forall_mem_cons.mpr ⟨⟨mk_9, ml_9⟩, List.forall_mem_cons.mpr ⟨⟨mk_11, ml_11⟩, List.forall_mem_cons.mpr ⟨⟨mk_12, ml_12⟩, List.forall_mem_cons.mpr ⟨⟨mk_13, ml_13⟩, List.forall_mem_cons.mpr ⟨⟨mk_14, ml_14⟩, List.forall_mem_cons.mpr ⟨⟨mk_16, ml_16⟩, List.forall_mem_cons.mpr ⟨⟨mk_17, ml_17⟩, List.forall_mem_cons.mpr ⟨⟨mk_18, ml_18⟩, List.forall_mem_cons.mpr ⟨⟨mk_19, ml_19⟩, List.forall_mem_cons.mpr ⟨⟨mk_20, ml_20⟩, List.forall_mem_cons.mpr ⟨⟨mk_21, ml_21⟩, List.forall_mem_cons.mpr ⟨⟨mk_22, ml_22⟩, List.forall_mem_cons.mpr ⟨⟨mk_23, ml_23⟩, List.forall_mem_cons.mpr ⟨⟨mk_24, ml_24⟩, List.forall_mem_cons.mpr ⟨⟨mk_25, ml_25⟩, List.forall_mem_cons.mpr ⟨⟨mk_27, ml_27⟩, List.forall_mem_cons.mpr ⟨⟨mk_28, ml_28⟩, List.forall_mem_cons.mpr ⟨⟨mk_29, ml_29⟩, List.forall_mem_cons.mpr ⟨⟨mk_30, ml_30⟩, List.forall_mem_cons.mpr ⟨⟨mk_31, ml_31⟩, List.forall_mem_cons.mpr ⟨⟨mk_32, ml_32⟩, List.forall_mem_cons.mpr ⟨⟨mk_33, ml_33⟩, List.forall_mem_cons.mpr ⟨⟨mk_34, ml_34⟩, List.forall_mem_cons.mpr ⟨⟨mk_35, ml_35⟩, List.forall_mem_cons.mpr ⟨⟨mk_36, ml_36⟩, List.forall_mem_cons.mpr ⟨⟨mk_37, ml_37⟩, List.forall_mem_cons.mpr ⟨⟨mk_38, ml_38⟩, List.forall_mem_cons.mpr ⟨⟨mk_40, ml_40⟩, List.forall_mem_cons.mpr ⟨⟨mk_41, ml_41⟩, List.forall_mem_cons.mpr ⟨⟨mk_42, ml_42⟩, List.forall_mem_cons.mpr ⟨⟨mk_43, ml_43⟩, List.forall_mem_cons.mpr ⟨⟨mk_44, ml_44⟩, fun _ h => absurd h List.not_mem_nil⟩⟩⟩⟩⟩⟩⟩⟩⟩⟩⟩⟩⟩⟩⟩⟩⟩⟩⟩⟩⟩⟩⟩⟩⟩⟩⟩⟩⟩⟩⟩⟩⟩⟩⟩⟩⟩⟩⟩⟩
def mi_VSL_1 : List (Nat) := [45, 46, 47, 48, 49, 50, 51, 52, 53, 55, 56, 57, 58, 59, 60, 61, 63, 64, 65, 66, 67, 68, 69, 70, 71, 72, 73, 74, 76, 77, 78, 80, 81, 82, 84, 85, 86, 87, 88, 89]
theorem mi_VSL_1_ok : ∀ q ∈ mi_VSL_1, mi_inst q ∧ Cond.selects (mi_y q).cls (mi_y q) (mi_y q) ∈ mi_gd := List.forall_mem_cons.mpr ⟨⟨mk_45, ml_45⟩, List.forall_mem_cons.mpr ⟨⟨mk_46, ml_46⟩, List.forall_mem_cons.mpr ⟨⟨mk_47, ml_47⟩, List.forall_mem_cons.mpr ⟨⟨mk_48, ml_48⟩, List.forall_mem_cons.mpr ⟨⟨mk_49, ml_49⟩, List.forall_mem_cons.mpr ⟨⟨mk_50, ml_50⟩, List.forall_mem_cons.mpr ⟨⟨mk_51, ml_51⟩, List.forall_mem_cons.mpr ⟨⟨mk_52, ml_52⟩, List.forall_mem_cons.mpr ⟨⟨mk_53, ml_53⟩, List.forall_mem_cons.mpr ⟨⟨mk_55, ml_55⟩, List.forall_mem_cons.mpr ⟨⟨mk_56, ml_56⟩, List.forall_mem_cons.mpr ⟨⟨mk_57, ml_57⟩, List.forall_mem_cons.mpr ⟨⟨mk_58, ml_58⟩, List.forall_mem_cons.mpr ⟨⟨mk_59, ml_59⟩, List.forall_mem_cons.mpr ⟨⟨mk_60, ml_60⟩, List.forall_mem_cons.mpr ⟨⟨mk_61, ml_61⟩, List.forall_mem_cons.mpr ⟨⟨mk_63, ml_63⟩, List.forall_mem_cons.mpr ⟨⟨mk_64, ml_64⟩, List.forall_mem_cons.mpr ⟨⟨mk_65, ml_65⟩, List.forall_mem_cons.mpr ⟨⟨mk_66, ml_66⟩, List.forall_mem_cons.mpr ⟨⟨mk_67, ml_67⟩, List.forall_mem_cons.mpr ⟨⟨mk_68, ml_68⟩, List.forall_mem_cons.mpr ⟨⟨mk_69, ml_69⟩, List.forall_mem_cons.mpr ⟨⟨mk_70, ml_70⟩, List.forall_mem_cons.mpr ⟨⟨mk_71, ml_71⟩, List.forall_mem_cons.mpr ⟨⟨mk_72, ml_72⟩, List.forall_mem_cons.mpr ⟨⟨mk_73, ml_73⟩, List.forall_mem_cons.mpr ⟨⟨mk_74, ml_74⟩, List.forall_mem_cons.mpr ⟨⟨mk_76, ml_76⟩, List.forall_mem_cons.mpr ⟨⟨mk_77, ml_77⟩, List.forall_mem_cons.mpr ⟨⟨mk_78, ml_78⟩, List.forall_mem_cons.mpr ⟨⟨mk_80, ml_80⟩, List.forall_mem_cons.mpr ⟨⟨mk_81, ml_81⟩, List.forall_mem_cons.mpr ⟨⟨mk_82, ml_82⟩, List.forall_mem_cons.mpr ⟨⟨mk_84, ml_84⟩, List.forall_mem_cons.mpr ⟨⟨mk_85, ml_85⟩, List.forall_mem_cons.mpr ⟨⟨mk_86, ml_86⟩, List.forall_mem_cons.mpr ⟨⟨mk_87, ml_87⟩, List.forall_mem_cons.mpr ⟨⟨mk_88, ml_88⟩, List.forall_mem_cons.mpr ⟨⟨mk_89, ml_89⟩, fun _ h => absurd h List.not_mem_nil⟩⟩⟩⟩⟩⟩⟩⟩⟩⟩⟩⟩⟩⟩⟩⟩⟩⟩⟩⟩⟩⟩⟩⟩⟩⟩⟩⟩⟩⟩⟩⟩⟩⟩⟩⟩⟩⟩⟩⟩
def mi_VSL_2 : List (Nat) := [91, 92, 93, 94, 95, 97, 98, 99, 100, 101, 102, 103, 104, 105, 106, 107, 108, 109, 110, 111, 112, 113, 114, 115, 116, 117, 118, 125, 126, 127, 128, 129, 130, 131, 132, 133, 134, 135, 136, 137]
theorem mi_VSL_2_ok : ∀ q ∈ mi_VSL_2, mi_inst q ∧ Cond.selects (mi_y q).cls (mi_y q) (mi_y q) ∈ mi_gd := List.forall_mem_cons.mpr ⟨⟨mk_91, ml_91⟩, List.forall_mem_cons.mpr ⟨⟨mk_92, ml_92⟩, List.forall_mem_cons.mpr ⟨⟨mk_93, ml_93⟩, List.forall_mem_cons.mpr ⟨⟨mk_94, ml_94⟩, List.forall_mem_cons.mpr ⟨⟨mk_95, ml_95⟩, List.forall_mem_cons.mpr ⟨⟨mk_97, ml_97⟩, List.forall_mem_cons.mpr ⟨⟨mk_98, ml_98⟩, List.forall_mem_cons.mpr ⟨⟨mk_99, ml_99⟩, List.forall_mem_cons.mpr ⟨⟨mk_100, ml_100⟩, List.forall_mem_cons.mpr ⟨⟨mk_101, ml_101⟩, List.forall_mem_cons.mpr ⟨⟨mk_102, ml_102⟩, List.forall_mem_cons.mpr ⟨⟨mk_103, ml_103⟩, List.forall_mem_cons.mpr ⟨⟨mk_104, ml_104⟩, List.forall_mem_cons.mpr ⟨⟨mk_105, ml_105⟩, List.forall_mem_cons.mpr ⟨⟨mk_106, ml_106⟩, List.forall_mem_cons.mpr ⟨⟨mk_107, ml_107⟩, List.forall_mem_cons.mpr ⟨⟨mk_108, ml_108⟩, List.forall_mem_cons.mpr ⟨⟨mk_109, ml_109⟩, List.forall_mem_cons.mpr ⟨⟨mk_110, ml_110⟩, List.forall_mem_cons.mpr ⟨⟨mk_111, ml_111⟩, List.forall_mem_cons.mpr ⟨⟨mk_112, ml_112⟩, List.forall_mem_cons.mpr ⟨⟨mk_113, ml_113⟩, List.forall_mem_cons.mpr ⟨⟨mk_114, ml_114⟩, List.forall_mem_cons.mpr ⟨⟨mk_115, ml_115⟩, List.forall_mem_cons.mpr ⟨⟨mk_116, ml_116⟩, List.forall_mem_cons.mpr ⟨⟨mk_117, ml_117⟩, List.forall_mem_cons.mpr ⟨⟨mk_118, ml_118⟩, List.forall_mem_cons.mpr ⟨⟨mk_125, ml_125⟩, List.forall_mem_cons.mpr ⟨⟨mk_126, ml_126⟩, List.forall_mem_cons.mpr ⟨⟨mk_127, ml_127⟩, List.forall_mem_cons.mpr ⟨⟨mk_128, ml_128⟩, List.forall_mem_cons.mpr ⟨⟨mk_129, ml_129⟩, List.forall_mem_cons.mpr ⟨⟨mk_130, ml_130⟩, List.forall_mem_cons.mpr ⟨⟨mk_131, ml_131⟩, List.forall_mem_cons.mpr ⟨⟨mk_132, ml_132⟩, List.forall_mem_cons.mpr ⟨⟨mk_133, ml_133⟩, List.forall_mem_cons.mpr ⟨⟨mk_134, ml_134⟩, List.forall_mem_cons.mpr ⟨⟨mk_135, ml_135⟩, List.forall_mem_cons.mpr ⟨⟨mk_136, ml_136⟩, List.forall_mem_cons.mpr ⟨⟨mk_137, ml_137⟩, fun _ h => absurd h List.not_mem_nil⟩⟩⟩⟩⟩⟩⟩⟩⟩⟩⟩⟩⟩⟩⟩⟩⟩⟩⟩⟩⟩⟩⟩⟩⟩⟩⟩⟩⟩⟩⟩⟩⟩⟩⟩⟩⟩⟩⟩⟩
def mi_VSL_3 : List (Nat) := [138, 139, 140, 141, 142, 143, 144, 145, 146, 147, 148, 149, 150, 151, 152, 153, 154, 155, 156, 157, 158, 159, 160, 161, 162, 163, 164, 165, 166, 167, 168, 169, 170, 171, 172, 173, 174, 175, 176, 177]
theorem mi_VSL_3_ok : ∀ q ∈ mi_VSL_3, mi_inst q ∧ Cond.selects (mi_y q).cls (mi_y q) (mi_y q) ∈ mi_gd := List.forall_mem_cons.mpr ⟨⟨mk_138, ml_138⟩, List.forall_mem_cons.mpr ⟨⟨mk_139, ml_139⟩, List.forall_mem_cons.mpr ⟨⟨mk_140, ml_140⟩, List.forall_mem_cons.mpr ⟨⟨mk_141, ml_141⟩, List.forall_mem_cons.mpr ⟨⟨mk_142, ml_142⟩, List.forall_mem_cons.mpr ⟨⟨mk_143, ml_143⟩, List.forall_mem_cons.mpr ⟨⟨mk_144, ml_144⟩, List.forall_mem_cons.mpr ⟨⟨mk_145, ml_145⟩, List.forall_mem_cons.mpr ⟨⟨mk_146, ml_146⟩, List.forall_mem_cons.mpr ⟨⟨mk_147, ml_147⟩, List.forall_mem_cons.mpr ⟨⟨mk_148, ml_148⟩, List.forall_mem_cons.mpr ⟨⟨mk_149, ml_149⟩, List.forall_mem_cons.mpr ⟨⟨mk_150, ml_150⟩, List.forall_mem_cons.mpr ⟨⟨mk_151, ml_151⟩, List.forall_mem_cons.mpr ⟨⟨mk_152, ml_152⟩, List.forall_mem_cons.mpr ⟨⟨mk_153, ml_153⟩, List.forall_mem_cons.mpr ⟨⟨mk_154, ml_154⟩, List.forall_mem_cons.mpr ⟨⟨mk_155, ml_155⟩, List.forall_mem_cons.mpr ⟨⟨mk_156, ml_156⟩, List.forall_mem_cons.mpr ⟨⟨mk_157, ml_157⟩, List.forall_mem_cons.mpr ⟨⟨mk_158, ml_158⟩, List.forall_mem_cons.mpr ⟨⟨mk_159, ml_159⟩, List.forall_mem_cons.mpr ⟨⟨mk_160, ml_160⟩, List.forall_mem_cons.mpr ⟨⟨mk_161, ml_161⟩, List.forall_mem_cons.mpr ⟨⟨mk_162, ml_162⟩, List.forall_mem_cons.mpr ⟨⟨mk_163, ml_163⟩, List.forall_mem_cons.mpr ⟨⟨mk_164, ml_164⟩, List.forall_mem_cons.mpr ⟨⟨mk_165, ml_165⟩, List.forall_mem_cons.mpr ⟨⟨mk_166, ml_166⟩, List.forall_mem_cons.mpr ⟨⟨mk_167, ml_167⟩, List.forall_mem_cons.mpr ⟨⟨mk_168, ml_168⟩, List.forall_mem_cons.mpr ⟨⟨mk_169, ml_169⟩, List.forall_mem_cons.mpr ⟨⟨mk_170, ml_170⟩, List.forall_mem_cons.mpr ⟨⟨mk_171, ml_171⟩, List.forall_mem_cons.mpr ⟨⟨mk_172, ml_172⟩, List.forall_mem_cons.mpr ⟨⟨mk_173, ml_173⟩, List.forall_mem_cons.mpr ⟨⟨mk_174, ml_174⟩, List.forall_mem_cons.mpr ⟨⟨mk_175, ml_175⟩, List.forall_mem_cons.mpr ⟨⟨mk_176, ml_176⟩, List.forall_mem_cons.mpr ⟨⟨mk_177, ml_177⟩, fun _ h => absurd h List.not_mem_nil⟩⟩⟩⟩⟩⟩⟩⟩⟩⟩⟩⟩⟩⟩⟩⟩⟩⟩⟩⟩⟩⟩⟩⟩⟩⟩⟩⟩⟩⟩⟩⟩⟩⟩⟩⟩⟩⟩⟩⟩
def mi_VSL_4 : List (Nat) := [178, 179, 180, 181, 182, 183, 184, 185, 186, 187, 188, 189, 190]
theorem mi_VSL_4_ok : ∀ q ∈ mi_VSL_4, mi_inst q ∧ Cond.selects (mi_y q).cls (mi_y q) (mi_y q) ∈ mi_gd := List.forall_mem_cons.mpr ⟨⟨mk_178, ml_178⟩, List.forall_mem_cons.mpr ⟨⟨mk_179, ml_179⟩, List.forall_mem_cons.mpr ⟨⟨mk_180, ml_180⟩, List.forall_mem_cons.mpr ⟨⟨mk_181, ml_181⟩, List.forall_mem_cons.mpr ⟨⟨mk_182, ml_182⟩, List.forall_mem_cons.mpr ⟨⟨mk_183, ml_183⟩, List.forall_mem_cons.mpr ⟨⟨mk_184, ml_184⟩, List.forall_mem_cons.mpr ⟨⟨mk_185, ml_185⟩, List.forall_mem_cons.mpr ⟨⟨mk_186, ml_186⟩, List.forall_mem_cons.mpr ⟨⟨mk_187, ml_187⟩, List.forall_mem_cons.mpr ⟨⟨mk_188, ml_188⟩, List.forall_mem_cons.mpr ⟨⟨mk_189, ml_189⟩, List.forall_mem_cons.mpr ⟨⟨mk_190, ml_190⟩, fun _ h => absurd h List.not_mem_nil⟩⟩⟩⟩⟩⟩⟩⟩⟩⟩⟩⟩⟩
def mi_VSL : List (Nat) := mi_VSL_0 ++ (mi_VSL_1 ++ (mi_VSL_2 ++ (mi_VSL_3 ++ (mi_VSL_4))))
theorem mi_VSL_ok : ∀ q ∈ mi_VSL, mi_inst q ∧ Cond.selects (mi_y q).cls (mi_y q) (mi_y q) ∈ mi_gd := List.forall_mem_append.mpr ⟨mi_VSL_0_ok, List.forall_mem_append.mpr ⟨mi_VSL_1_ok, List.forall_mem_append.mpr ⟨mi_VSL_2_ok, List.forall_mem_append.mpr ⟨mi_VSL_3_ok, mi_VSL_4_ok⟩⟩⟩⟩
def mi_SSL_0 : List (Nat) := [119, 120, 121, 122, 124, 191, 192]
theorem mi_SSL_0_ok : ∀ q ∈ mi_SSL_0, mi_stc q := List.forall_mem_cons.mpr ⟨mk_119, List.forall_mem_cons.mpr ⟨mk_120, List.forall_mem_cons.mpr ⟨mk_121, List.forall_mem_cons.mpr ⟨mk_122, List.forall_mem_cons.mpr ⟨mk_124, List.forall_mem_cons.mpr ⟨mk_191, List.forall_mem_cons.mpr ⟨mk_192, fun _ h => absurd h List.not_mem_nil⟩⟩⟩⟩⟩⟩⟩
def mi_SSL : List (Nat) := mi_SSL_0
theorem mi_SSL_ok : ∀ q ∈ mi_SSL, mi_stc q := mi_SSL_0_ok
def mi_INL_0 : List (Nat) := [0, 10, 15, 26, 39, 54, 62, 75, 79, 83, 90, 96, 123]
theorem mi_INL_0_ok : ∀ q ∈ mi_INL_0, mi_inst q ∧ (mi_y q).name = "<init>" := List.forall_mem_cons.mpr ⟨⟨mk_0, rfl⟩, List.forall_mem_cons.mpr ⟨⟨mk_10, rfl⟩, List.forall_mem_cons.mpr ⟨⟨mk_15, rfl⟩, List.forall_mem_cons.mpr ⟨⟨mk_26, rfl⟩, List.forall_mem_cons.mpr ⟨⟨mk_39, rfl⟩, List.forall_mem_cons.mpr ⟨⟨mk_54, rfl⟩, List.forall_mem_cons.mpr ⟨⟨mk_62, rfl⟩, List.forall_mem_cons.mpr ⟨⟨mk_75, rfl⟩, List.forall_mem_cons.mpr ⟨⟨mk_79, rfl⟩, List.forall_mem_cons.mpr ⟨⟨mk_83, rfl⟩, List.forall_mem_cons.mpr ⟨⟨mk_90, rfl⟩, List.forall_mem_cons.mpr ⟨⟨mk_96, rfl⟩, List.forall_mem_cons.mpr ⟨⟨mk_123, rfl⟩, fun _ h => absurd h List.not_mem_nil⟩⟩⟩⟩⟩⟩⟩⟩⟩⟩⟩⟩⟩
def mi_INL : List (Nat) := mi_INL_0
theorem mi_INL_ok : ∀ q ∈ mi_INL, mi_inst q ∧ (mi_y q).name = "<init>" := mi_INL_0_ok
theorem ar_int : Cond.arrayClass .int ∈ mi_gd := mi_in 146 (by decide +kernel) rfl
theorem ar_bool : Cond.arrayClass .boolean ∈ mi_gd := mi_in 1144 (by decide +kernel) rfl
theorem ob_1 : Cond.instanceMethod Lib.objectInit ∈ mi_gd := mi_in 111 (by decide +kernel) rfl
theorem ob_2 : Cond.code Lib.objectInit ⟨#[0xb1]⟩ 1 none ∈ mi_gd := mi_in 112 (by decide +kernel) rfl
