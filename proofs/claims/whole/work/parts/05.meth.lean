abbrev mi_Me : Type := Nat × MethodName × ByteArray × Nat × Option FieldType × List mi_I × Nat × Nat × Nat
def mi_cns : List String := [RX0, RX1, RX2, RX3, RX4, RX5, RX6, RX7, RX8, RX9, RX10, RX11, RX12, RJ6, RJ7, RJ9]
def mi_cn (w : Nat) : String := mi_cns.getD w ""
def mi_tyf (ci : Nat) : Nat → FieldType := match ci with
  | 0 => tyX0
  | 1 => tyX1
  | 2 => tyX2
  | 3 => tyX3
  | 4 => tyX4
  | 5 => tyX5
  | 6 => tyX6
  | 7 => tyX7
  | 8 => tyX8
  | 9 => tyX9
  | 10 => tyX10
  | 11 => tyX11
  | 12 => tyX12
  | _ => fun _ => .int
def mi_df : mi_Me := (0, ⟨"", "", ""⟩, ⟨#[]⟩, 0, none, [], 0, 0, 0)
def mi_mes_0 : List mi_Me := [(0, yX0_init, cX0_init, 1, none, tb_0, 7, 262, 1),
  (0, yX0_of, cX0_of, 2, (some .int), tb_1, 0, 0, 2),
  (0, yX0_find, cX0_find, 3, none, tb_2, 0, 0, 2),
  (0, yX0_growTree, cX0_growTree, 8, none, tb_3, 0, 0, 3),
  (0, yX0_reach, cX0_reach, 4, none, tb_4, 0, 0, 4),
  (0, yX0_deeper, cX0_deeper, 3, (some .int), tb_5, 0, 0, 3),
  (0, yX0_closeRing, cX0_closeRing, 8, none, tb_6, 0, 0, 3),
  (0, yX0_merge, cX0_merge, 5, none, tb_7, 0, 0, 3),
  (0, yX0_standingFor, cX0_standingFor, 4, (some .int), tb_8, 0, 0, 2),
  (0, yX0_giveNumbers, cX0_giveNumbers, 4, none, tb_9, 0, 0, 2),
  (1, yX1_init, cX1_init, 1, none, tb_10, 3, 142, 1),
  (1, yX1_make, cX1_make, 7, (some .int), tb_11, 0, 0, 2),
  (1, yX1_takeAll, cX1_takeAll, 5, none, tb_12, 0, 0, 2),
  (1, yX1_leastTied, cX1_leastTied, 7, (some .int), tb_13, 0, 0, 3),
  (1, yX1_leastFree, cX1_leastFree, 4, (some .int), tb_14, 0, 0, 2),
  (2, yX2_init, cX2_init, 1, none, tb_15, 11, 548, 1),
  (2, yX2_make, cX2_make, 5, none, tb_16, 0, 0, 4),
  (2, yX2_startLine, cX2_startLine, 4, none, tb_17, 0, 0, 4),
  (2, yX2_put, cX2_put, 4, none, tb_18, 0, 0, 4),
  (2, yX2_findOrder, cX2_findOrder, 8, none, tb_19, 0, 0, 6),
  (2, yX2_findFree, cX2_findFree, 7, (some .int), tb_20, 0, 0, 2),
  (2, yX2_takeFromRim, cX2_takeFromRim, 7, none, tb_21, 0, 0, 3),
  (2, yX2_raise, cX2_raise, 6, none, tb_22, 0, 0, 3),
  (2, yX2_carriedByLine, cX2_carriedByLine, 6, (some .int), tb_23, 0, 0, 3),
  (2, yX2_move, cX2_move, 4, none, tb_24, 0, 0, 3)]
def mi_mes_1 : List mi_Me := [(2, yX2_putAbove, cX2_putAbove, 4, none, tb_25, 0, 0, 4),
  (3, yX3_init, cX3_init, 1, none, tb_26, 150, 8776, 1),
  (3, yX3_lays, cX3_lays, 3, (some .boolean), tb_27, 0, 0, 2),
  (3, yX3_takeBlock, cX3_takeBlock, 4, none, tb_28, 0, 0, 3),
  (3, yX3_layFirstRing, cX3_layFirstRing, 3, none, tb_29, 0, 0, 1),
  (3, yX3_laysRest, cX3_laysRest, 3, (some .boolean), tb_30, 0, 0, 1),
  (3, yX3_findWay, cX3_findWay, 3, none, tb_31, 0, 0, 2),
  (3, yX3_markWay, cX3_markWay, 4, none, tb_32, 0, 0, 2),
  (3, yX3_choosePart, cX3_choosePart, 6, (some .boolean), tb_33, 0, 0, 1),
  (3, yX3_weigh, cX3_weigh, 5, (some .boolean), tb_34, 0, 0, 3),
  (3, yX3_spread, cX3_spread, 5, (some .int), tb_35, 0, 0, 2),
  (3, yX3_tellTurn, cX3_tellTurn, 2, none, tb_36, 0, 0, 1),
  (3, yX3_tellRing, cX3_tellRing, 6, none, tb_37, 0, 0, 2),
  (3, yX3_tellAround, cX3_tellAround, 5, none, tb_38, 0, 0, 2),
  (4, yX4_init, cX4_init, 1, none, tb_39, 3, 140, 1),
  (4, yX4_begin, cX4_begin, 2, none, tb_40, 0, 0, 2),
  (4, yX4_copy, cX4_copy, 3, none, tb_41, 0, 0, 2),
  (4, yX4_hasVertex, cX4_hasVertex, 2, (some .boolean), tb_42, 0, 0, 2),
  (4, yX4_hasEdge, cX4_hasEdge, 2, (some .boolean), tb_43, 0, 0, 2),
  (4, yX4_low, cX4_low, 2, (some .int), tb_44, 0, 0, 2),
  (4, yX4_high, cX4_high, 2, (some .int), tb_45, 0, 0, 2),
  (4, yX4_around, cX4_around, 2, (some .int), tb_46, 0, 0, 2),
  (4, yX4_aroundAll, cX4_aroundAll, 4, (some .int), tb_47, 0, 0, 2),
  (4, yX4_joined, cX4_joined, 3, (some .boolean), tb_48, 0, 0, 3),
  (4, yX4_takes, cX4_takes, 3, (some .boolean), tb_49, 0, 0, 3)]
def mi_mes_2 : List mi_Me := [(4, yX4_add, cX4_add, 3, none, tb_50, 0, 0, 3),
  (4, yX4_remove, cX4_remove, 5, none, tb_51, 0, 0, 2),
  (4, yX4_lonely, cX4_lonely, 3, (some .int), tb_52, 0, 0, 1),
  (4, yX4_isFull, cX4_isFull, 1, (some .boolean), tb_53, 0, 0, 1),
  (5, yX5_init, cX5_init, 2, none, tb_54, 84, 5082, 1),
  (5, yX5_has, cX5_has, 2, (some .boolean), tb_55, 0, 0, 2),
  (5, yX5_size, cX5_size, 2, (some .int), tb_56, 0, 0, 2),
  (5, yX5_get, cX5_get, 3, (some .int), tb_57, 0, 0, 3),
  (5, yX5_placeBehind, cX5_placeBehind, 3, (some .int), tb_58, 0, 0, 3),
  (5, yX5_fitting, cX5_fitting, 4, (some .int), tb_59, 0, 0, 3),
  (5, yX5_begin, cX5_begin, 6, none, tb_60, 0, 0, 4),
  (5, yX5_part, cX5_part, 5, none, tb_61, 0, 0, 5),
  (6, yX6_init, cX6_init, 2, none, tb_62, 1, 120, 2),
  (6, yX6_size, cX6_size, 1, (some .int), tb_63, 0, 0, 1),
  (6, yX6_clear, cX6_clear, 1, none, tb_64, 0, 0, 1),
  (6, yX6_add, cX6_add, 2, none, tb_65, 0, 0, 2),
  (6, yX6_get, cX6_get, 2, (some .int), tb_66, 0, 0, 2),
  (6, yX6_find, cX6_find, 3, (some .int), tb_67, 0, 0, 2),
  (6, yX6_exchange, cX6_exchange, 4, (some .boolean), tb_68, 0, 0, 3),
  (6, yX6_placeBehind, cX6_placeBehind, 2, (some .int), tb_69, 0, 0, 2),
  (6, yX6_copy, cX6_copy, 3, none, tb_70, 0, 0, 2),
  (6, yX6_addPart, cX6_addPart, 5, none, tb_71, 0, 0, 4),
  (6, yX6_addBackwards, cX6_addBackwards, 3, none, tb_72, 0, 0, 2),
  (6, yX6_addArc, cX6_addArc, 7, none, tb_73, 0, 0, 4),
  (6, yX6_bits, cX6_bits, 3, (some .int), tb_74, 0, 0, 1)]
def mi_mes_3 : List mi_Me := [(7, yX7_init, cX7_init, 1, none, tb_75, 5, 264, 1),
  (7, yX7_seek, cX7_seek, 10, none, tb_76, 0, 0, 5),
  (7, yX7_goStraight, cX7_goStraight, 2, none, tb_77, 0, 0, 2),
  (7, yX7_traceBack, cX7_traceBack, 4, none, tb_78, 0, 0, 2),
  (8, yX8_init, cX8_init, 1, none, tb_79, 4, 244, 1),
  (8, yX8_find, cX8_find, 5, none, tb_80, 0, 0, 4),
  (8, yX8_takeRest, cX8_takeRest, 4, none, tb_81, 0, 0, 3),
  (8, yX8_sort, cX8_sort, 1, (some .int), tb_82, 0, 0, 1),
  (9, yX9_init, cX9_init, 2, none, tb_83, 41, 2460, 1),
  (9, yX9_clear, cX9_clear, 2, none, tb_84, 0, 0, 1),
  (9, yX9_copy, cX9_copy, 3, none, tb_85, 0, 0, 2),
  (9, yX9_add, cX9_add, 3, none, tb_86, 0, 0, 3),
  (9, yX9_neighbour, cX9_neighbour, 3, (some .int), tb_87, 0, 0, 3),
  (9, yX9_exchange, cX9_exchange, 4, (some .boolean), tb_88, 0, 0, 4),
  (9, yX9_behind, cX9_behind, 4, (some .int), tb_89, 0, 0, 3),
  (10, yX10_init, cX10_init, 1, none, tb_90, 5, 762, 1),
  (10, yX10_find, cX10_find, 6, none, tb_91, 0, 0, 3),
  (10, yX10_nameDarts, cX10_nameDarts, 5, none, tb_92, 0, 0, 2),
  (10, yX10_goRound, cX10_goRound, 4, none, tb_93, 0, 0, 2),
  (10, yX10_beginOf, cX10_beginOf, 3, (some .int), tb_94, 0, 0, 3),
  (10, yX10_beginning, cX10_beginning, 7, (some .int), tb_95, 0, 0, 4),
  (11, yX11_init, cX11_init, 1, none, tb_96, 228, 13252, 1),
  (11, yX11_graph, cX11_graph, 2, (some .boolean), tb_97, 0, 0, 2),
  (11, yX11_join, cX11_join, 3, (some .int), tb_98, 0, 0, 3),
  (11, yX11_cut, cX11_cut, 2, (some .boolean), tb_99, 0, 0, 2)]
def mi_mes_4 : List mi_Me := [(11, yX11_edge, cX11_edge, 3, (some .int), tb_100, 0, 0, 3),
  (11, yX11_about, cX11_about, 2, (some .int), tb_101, 0, 0, 2),
  (11, yX11_lay, cX11_lay, 1, (some .int), tb_102, 0, 0, 1),
  (11, yX11_turn, cX11_turn, 3, (some .int), tb_103, 0, 0, 3),
  (11, yX11_swap, cX11_swap, 4, (some .boolean), tb_104, 0, 0, 4),
  (11, yX11_faces, cX11_faces, 1, (some .int), tb_105, 0, 0, 1),
  (11, yX11_face, cX11_face, 3, (some .int), tb_106, 0, 0, 3),
  (11, yX11_genus, cX11_genus, 2, (some .int), tb_107, 0, 0, 1),
  (11, yX11_knot, cX11_knot, 2, (some .int), tb_108, 0, 0, 2),
  (11, yX11_may, cX11_may, 3, (some .int), tb_109, 0, 0, 3),
  (11, yX11_fill, cX11_fill, 4, (some .int), tb_110, 0, 0, 1),
  (11, yX11_draw, cX11_draw, 1, (some .boolean), tb_111, 0, 0, 1),
  (11, yX11_at, cX11_at, 3, (some .int), tb_112, 0, 0, 3),
  (11, yX11_colour, cX11_colour, 1, (some .int), tb_113, 0, 0, 1),
  (11, yX11_colourOf, cX11_colourOf, 2, (some .int), tb_114, 0, 0, 2),
  (11, yX11_forget, cX11_forget, 1, none, tb_115, 0, 0, 1),
  (11, yX11_fits, cX11_fits, 1, (some .boolean), tb_116, 0, 0, 1),
  (11, yX11_layOut, cX11_layOut, 2, (some .boolean), tb_117, 0, 0, 1),
  (11, yX11_addIfItFits, cX11_addIfItFits, 3, none, tb_118, 0, 0, 3),
  (11, yX11_canBe, cX11_canBe, 1, (some .boolean), tb_119, 0, 0, 1),
  (11, yX11_bit, cX11_bit, 1, (some .int), tb_120, 0, 0, 1),
  (11, yX11_in, cX11_in, 2, (some .boolean), tb_121, 0, 0, 2),
  (11, yX11_leastOf, cX11_leastOf, 1, (some .int), tb_122, 0, 0, 1),
  (12, yX12_init, cX12_init, 1, none, tb_123, 31, 3068, 1),
  (12, yX12_isIn, cX12_isIn, 3, (some .boolean), tb_124, 0, 0, 3)]
def mi_mes_5 : List mi_Me := [(12, yX12_isVertex, cX12_isVertex, 2, (some .boolean), tb_125, 0, 0, 2),
  (12, yX12_forget, cX12_forget, 1, none, tb_126, 0, 0, 1),
  (12, yX12_graph, cX12_graph, 2, (some .boolean), tb_127, 0, 0, 2),
  (12, yX12_edgeOf, cX12_edgeOf, 6, (some .int), tb_128, 0, 0, 3),
  (12, yX12_put, cX12_put, 3, none, tb_129, 0, 0, 3),
  (12, yX12_join, cX12_join, 3, (some .int), tb_130, 0, 0, 3),
  (12, yX12_cut, cX12_cut, 3, (some .boolean), tb_131, 0, 0, 2),
  (12, yX12_all, cX12_all, 2, none, tb_132, 0, 0, 1),
  (12, yX12_other, cX12_other, 3, (some .int), tb_133, 0, 0, 3),
  (12, yX12_forest, cX12_forest, 4, none, tb_134, 0, 0, 1),
  (12, yX12_spread, cX12_spread, 6, (some .int), tb_135, 0, 0, 3),
  (12, yX12_unite, cX12_unite, 6, none, tb_136, 0, 0, 3),
  (12, yX12_makeBlocks, cX12_makeBlocks, 5, none, tb_137, 0, 0, 1),
  (12, yX12_number, cX12_number, 2, none, tb_138, 0, 0, 1),
  (12, yX12_isHere, cX12_isHere, 2, (some .boolean), tb_139, 0, 0, 2),
  (12, yX12_sizeOf, cX12_sizeOf, 4, (some .int), tb_140, 0, 0, 2),
  (12, yX12_leastEdge, cX12_leastEdge, 3, (some .int), tb_141, 0, 0, 2),
  (12, yX12_find, cX12_find, 12, (some .int), tb_142, 0, 0, 6),
  (12, yX12_allVertices, cX12_allVertices, 1, (some .int), tb_143, 0, 0, 1),
  (12, yX12_takeWay, cX12_takeWay, 5, none, tb_144, 0, 0, 3),
  (12, yX12_firstRings, cX12_firstRings, 5, none, tb_145, 0, 0, 2),
  (12, yX12_makeParts, cX12_makeParts, 6, none, tb_146, 0, 0, 1),
  (12, yX12_ringSet, cX12_ringSet, 4, (some .int), tb_147, 0, 0, 2),
  (12, yX12_fit, cX12_fit, 3, none, tb_148, 0, 0, 2),
  (12, yX12_nextPart, cX12_nextPart, 3, (some .int), tb_149, 0, 0, 1)]
def mi_mes_6 : List mi_Me := [(12, yX12_layPart, cX12_layPart, 10, none, tb_150, 0, 0, 2),
  (12, yX12_markWay, cX12_markWay, 6, none, tb_151, 0, 0, 3),
  (12, yX12_layBlock, cX12_layBlock, 3, (some .boolean), tb_152, 0, 0, 2),
  (12, yX12_layAll, cX12_layAll, 5, (some .boolean), tb_153, 0, 0, 2),
  (12, yX12_tellNeighbours, cX12_tellNeighbours, 4, none, tb_154, 0, 0, 1),
  (12, yX12_turnOf, cX12_turnOf, 6, none, tb_155, 0, 0, 3),
  (12, yX12_isPlane, cX12_isPlane, 1, (some .boolean), tb_156, 0, 0, 1),
  (12, yX12_edge, cX12_edge, 3, (some .int), tb_157, 0, 0, 3),
  (12, yX12_lonely, cX12_lonely, 5, (some .int), tb_158, 0, 0, 1),
  (12, yX12_about, cX12_about, 2, (some .int), tb_159, 0, 0, 2),
  (12, yX12_lay, cX12_lay, 1, (some .int), tb_160, 0, 0, 1),
  (12, yX12_makeKnot, cX12_makeKnot, 2, none, tb_161, 0, 0, 1),
  (12, yX12_turn, cX12_turn, 3, (some .int), tb_162, 0, 0, 3),
  (12, yX12_swap, cX12_swap, 5, (some .boolean), tb_163, 0, 0, 4),
  (12, yX12_tail, cX12_tail, 2, (some .int), tb_164, 0, 0, 2),
  (12, yX12_dart, cX12_dart, 3, (some .int), tb_165, 0, 0, 3),
  (12, yX12_following, cX12_following, 5, (some .int), tb_166, 0, 0, 2),
  (12, yX12_makeFaces, cX12_makeFaces, 3, none, tb_167, 0, 0, 1),
  (12, yX12_faces, cX12_faces, 1, (some .int), tb_168, 0, 0, 1),
  (12, yX12_face, cX12_face, 6, (some .int), tb_169, 0, 0, 3),
  (12, yX12_genus, cX12_genus, 1, (some .int), tb_170, 0, 0, 1),
  (12, yX12_knotDegree, cX12_knotDegree, 4, (some .int), tb_171, 0, 0, 2),
  (12, yX12_branch, cX12_branch, 4, (some .int), tb_172, 0, 0, 2),
  (12, yX12_knot, cX12_knot, 3, (some .int), tb_173, 0, 0, 2),
  (12, yX12_could, cX12_could, 4, (some .boolean), tb_174, 0, 0, 3)]
def mi_mes_7 : List mi_Me := [(12, yX12_may, cX12_may, 3, (some .int), tb_175, 0, 0, 3),
  (12, yX12_fill, cX12_fill, 4, (some .int), tb_176, 0, 0, 1),
  (12, yX12_rimPlace, cX12_rimPlace, 3, (some .int), tb_177, 0, 0, 2),
  (12, yX12_isFree, cX12_isFree, 3, (some .boolean), tb_178, 0, 0, 2),
  (12, yX12_turnPlace, cX12_turnPlace, 4, (some .int), tb_179, 0, 0, 3),
  (12, yX12_isNew, cX12_isNew, 2, (some .boolean), tb_180, 0, 0, 2),
  (12, yX12_gather, cX12_gather, 9, (some .boolean), tb_181, 0, 0, 5),
  (12, yX12_makeOrder, cX12_makeOrder, 6, none, tb_182, 0, 0, 1),
  (12, yX12_move, cX12_move, 4, none, tb_183, 0, 0, 3),
  (12, yX12_set, cX12_set, 4, none, tb_184, 0, 0, 4),
  (12, yX12_makePlaces, cX12_makePlaces, 9, none, tb_185, 0, 0, 1),
  (12, yX12_draw, cX12_draw, 2, (some .boolean), tb_186, 0, 0, 1),
  (12, yX12_at, cX12_at, 3, (some .int), tb_187, 0, 0, 3),
  (12, yX12_joined, cX12_joined, 5, (some .int), tb_188, 0, 0, 3),
  (12, yX12_colour, cX12_colour, 6, (some .int), tb_189, 0, 0, 1),
  (12, yX12_colourOf, cX12_colourOf, 2, (some .int), tb_190, 0, 0, 2),
  (13, yJ6_bitCount_0f7a4, cJ6_bitCount_0f7a4, 1, (some .int), tb_191, 0, 0, 1),
  (14, yJ7_fill_53178, cJ7_fill_53178, 4, none, tb_192, 0, 0, 2)]
def mi_me (k : Nat) : mi_Me := match k / 25 with
  | 0 => mi_mes_0.getD (k % 25) mi_df
  | 1 => mi_mes_1.getD (k % 25) mi_df
  | 2 => mi_mes_2.getD (k % 25) mi_df
  | 3 => mi_mes_3.getD (k % 25) mi_df
  | 4 => mi_mes_4.getD (k % 25) mi_df
  | 5 => mi_mes_5.getD (k % 25) mi_df
  | 6 => mi_mes_6.getD (k % 25) mi_df
  | 7 => mi_mes_7.getD (k % 25) mi_df
  | _ => mi_df
def mi_own (k : Nat) : Nat := (mi_me k).1
def mi_y (k : Nat) : MethodName := (mi_me k).2.1
def mi_code (k : Nat) : ByteArray := (mi_me k).2.2.1
def mi_maxL (k : Nat) : Nat := (mi_me k).2.2.2.1
def mi_rt (k : Nat) : Option FieldType := (mi_me k).2.2.2.2.1
def mi_tab (k : Nat) : List mi_I := (mi_me k).2.2.2.2.2.1
def mi_mc (k : Nat) : Nat := (mi_me k).2.2.2.2.2.2.1
def mi_sl (k : Nat) : Nat := (mi_me k).2.2.2.2.2.2.2.1
def mi_na (k : Nat) : Nat := (mi_me k).2.2.2.2.2.2.2.2
def mi_nM : Nat := 193
