/-! ===== every method of the program is checked ===== -/
def pc_0 : List aM := [mi_0, mi_1, mi_2, mi_3, mi_4, mi_5, mi_6, mi_7, mi_8, mi_9, mi_10, mi_11, mi_12, mi_13, mi_14, mi_15, mi_16, mi_17, mi_18, mi_19]
theorem pk_c0 : ∀ mj ∈ pc_0, ∃ w1 w2 w3 w4, mChk pg mj w1 w2 w3 w4 = true := by
  intro mj h
  unfold pc_0 at h
  simp only [List.mem_cons, List.not_mem_nil, or_false] at h
  rcases h with rfl | rfl | rfl | rfl | rfl | rfl | rfl | rfl | rfl | rfl | rfl | rfl | rfl | rfl | rfl | rfl | rfl | rfl | rfl | rfl
  · exact ⟨311, 310, 0, 61, mok_0⟩
  · exact ⟨376, 374, 375, 61, mok_1⟩
  · exact ⟨745, 743, 744, 61, mok_2⟩
  · exact ⟨408, 406, 407, 61, mok_3⟩
  · exact ⟨741, 739, 740, 61, mok_4⟩
  · exact ⟨400, 398, 399, 61, mok_5⟩
  · exact ⟨416, 414, 415, 61, mok_6⟩
  · exact ⟨725, 723, 724, 61, mok_7⟩
  · exact ⟨392, 390, 391, 61, mok_8⟩
  · exact ⟨396, 395, 6, 61, mok_9⟩
  · exact ⟨404, 402, 403, 61, mok_10⟩
  · exact ⟨495, 493, 494, 61, mok_11⟩
  · exact ⟨424, 422, 423, 61, mok_12⟩
  · exact ⟨499, 497, 498, 61, mok_13⟩
  · exact ⟨420, 418, 419, 61, mok_14⟩
  · exact ⟨189, 188, 0, 58, mok_15⟩
  · exact ⟨207, 205, 206, 58, mok_16⟩
  · exact ⟨586, 584, 585, 58, mok_17⟩
  · exact ⟨230, 228, 229, 58, mok_18⟩
  · exact ⟨274, 272, 273, 58, mok_19⟩
def pc_1 : List aM := [mi_20, mi_21, mi_22, mi_23, mi_24, mi_25, mi_26, mi_27, mi_28, mi_29, mi_30, mi_31, mi_32, mi_33, mi_34, mi_35, mi_36, mi_37, mi_38, mi_39]
theorem pk_c1 : ∀ mj ∈ pc_1, ∃ w1 w2 w3 w4, mChk pg mj w1 w2 w3 w4 = true := by
  intro mj h
  unfold pc_1 at h
  simp only [List.mem_cons, List.not_mem_nil, or_false] at h
  rcases h with rfl | rfl | rfl | rfl | rfl | rfl | rfl | rfl | rfl | rfl | rfl | rfl | rfl | rfl | rfl | rfl | rfl | rfl | rfl | rfl
  · exact ⟨246, 244, 245, 58, mok_20⟩
  · exact ⟨250, 248, 249, 58, mok_21⟩
  · exact ⟨519, 517, 518, 58, mok_22⟩
  · exact ⟨371, 369, 370, 58, mok_23⟩
  · exact ⟨223, 221, 222, 58, mok_24⟩
  · exact ⟨549, 547, 548, 58, mok_25⟩
  · exact ⟨254, 252, 253, 58, mok_26⟩
  · exact ⟨226, 225, 0, 59, mok_27⟩
  · exact ⟨602, 601, 0, 59, mok_28⟩
  · exact ⟨210, 209, 0, 59, mok_29⟩
  · exact ⟨233, 232, 0, 59, mok_30⟩
  · exact ⟨608, 607, 0, 59, mok_31⟩
  · exact ⟨605, 604, 0, 59, mok_32⟩
  · exact ⟨630, 629, 0, 59, mok_33⟩
  · exact ⟨91, 90, 0, 52, mok_34⟩
  · exact ⟨657, 656, 9, 52, mok_35⟩
  · exact ⟨653, 651, 652, 52, mok_36⟩
  · exact ⟨806, 804, 805, 52, mok_37⟩
  · exact ⟨683, 682, 10, 52, mok_38⟩
  · exact ⟨708, 707, 13, 52, mok_39⟩
def pc_2 : List aM := [mi_40, mi_41, mi_42, mi_43, mi_44, mi_45, mi_46, mi_47, mi_48, mi_49, mi_50, mi_51, mi_52, mi_53, mi_54, mi_55, mi_56, mi_57, mi_58, mi_59]
theorem pk_c2 : ∀ mj ∈ pc_2, ∃ w1 w2 w3 w4, mChk pg mj w1 w2 w3 w4 = true := by
  intro mj h
  unfold pc_2 at h
  simp only [List.mem_cons, List.not_mem_nil, or_false] at h
  rcases h with rfl | rfl | rfl | rfl | rfl | rfl | rfl | rfl | rfl | rfl | rfl | rfl | rfl | rfl | rfl | rfl | rfl | rfl | rfl | rfl
  · exact ⟨687, 686, 11, 52, mok_40⟩
  · exact ⟨698, 697, 12, 52, mok_41⟩
  · exact ⟨703, 702, 0, 52, mok_42⟩
  · exact ⟨327, 326, 0, 62, mok_43⟩
  · exact ⟨380, 378, 379, 62, mok_44⟩
  · exact ⟨671, 669, 670, 62, mok_45⟩
  · exact ⟨599, 597, 598, 62, mok_46⟩
  · exact ⟨491, 489, 490, 62, mok_47⟩
  · exact ⟨782, 780, 781, 62, mok_48⟩
  · exact ⟨666, 664, 665, 62, mok_49⟩
  · exact ⟨590, 588, 589, 62, mok_50⟩
  · exact ⟨578, 576, 577, 62, mok_51⟩
  · exact ⟨511, 509, 510, 62, mok_52⟩
  · exact ⟨515, 513, 514, 62, mok_53⟩
  · exact ⟨574, 572, 573, 62, mok_54⟩
  · exact ⟨595, 593, 594, 62, mok_55⟩
  · exact ⟨618, 616, 617, 62, mok_56⟩
  · exact ⟨720, 718, 719, 62, mok_57⟩
  · exact ⟨627, 625, 626, 62, mok_58⟩
  · exact ⟨623, 621, 622, 62, mok_59⟩
def pc_3 : List aM := [mi_60, mi_61, mi_62, mi_63, mi_64, mi_65, mi_66, mi_67, mi_68, mi_69, mi_70, mi_71, mi_72, mi_73, mi_74, mi_75, mi_76, mi_77, mi_78, mi_79]
theorem pk_c3 : ∀ mj ∈ pc_3, ∃ w1 w2 w3 w4, mChk pg mj w1 w2 w3 w4 = true := by
  intro mj h
  unfold pc_3 at h
  simp only [List.mem_cons, List.not_mem_nil, or_false] at h
  rcases h with rfl | rfl | rfl | rfl | rfl | rfl | rfl | rfl | rfl | rfl | rfl | rfl | rfl | rfl | rfl | rfl | rfl | rfl | rfl | rfl
  · exact ⟨507, 505, 506, 62, mok_60⟩
  · exact ⟨794, 792, 793, 62, mok_61⟩
  · exact ⟨448, 447, 0, 63, mok_62⟩
  · exact ⟨503, 501, 502, 63, mok_63⟩
  · exact ⟨524, 522, 523, 63, mok_64⟩
  · exact ⟨829, 827, 828, 63, mok_65⟩
  · exact ⟨297, 295, 296, 63, mok_66⟩
  · exact ⟨301, 299, 300, 63, mok_67⟩
  · exact ⟨870, 868, 869, 63, mok_68⟩
  · exact ⟨859, 857, 858, 63, mok_69⟩
  · exact ⟨863, 861, 862, 63, mok_70⟩
  · exact ⟨818, 816, 817, 63, mok_71⟩
  · exact ⟨978, 976, 977, 63, mok_72⟩
  · exact ⟨1088, 1087, 0, 63, mok_73⟩
  · exact ⟨527, 526, 0, 64, mok_74⟩
  · exact ⟨539, 538, 0, 64, mok_75⟩
  · exact ⟨536, 535, 0, 64, mok_76⟩
  · exact ⟨542, 541, 0, 64, mok_77⟩
  · exact ⟨545, 544, 0, 64, mok_78⟩
  · exact ⟨530, 529, 0, 64, mok_79⟩
def pc_4 : List aM := [mi_80, mi_81, mi_82, mi_83, mi_84, mi_85, mi_86, mi_87, mi_88, mi_89, mi_90, mi_91, mi_92, mi_93, mi_94, mi_95, mi_96, mi_97, mi_98, mi_99]
theorem pk_c4 : ∀ mj ∈ pc_4, ∃ w1 w2 w3 w4, mChk pg mj w1 w2 w3 w4 = true := by
  intro mj h
  unfold pc_4 at h
  simp only [List.mem_cons, List.not_mem_nil, or_false] at h
  rcases h with rfl | rfl | rfl | rfl | rfl | rfl | rfl | rfl | rfl | rfl | rfl | rfl | rfl | rfl | rfl | rfl | rfl | rfl | rfl | rfl
  · exact ⟨533, 532, 0, 64, mok_80⟩
  · exact ⟨841, 840, 0, 64, mok_81⟩
  · exact ⟨305, 304, 0, 60, mok_82⟩
  · exact ⟨367, 365, 366, 60, mok_83⟩
  · exact ⟨553, 551, 552, 60, mok_84⟩
  · exact ⟨266, 264, 265, 60, mok_85⟩
  · exact ⟨270, 268, 269, 60, mok_86⟩
  · exact ⟨289, 287, 288, 60, mok_87⟩
  · exact ⟨429, 427, 428, 60, mok_88⟩
  · exact ⟨433, 431, 432, 60, mok_89⟩
  · exact ⟨565, 563, 564, 60, mok_90⟩
  · exact ⟨388, 386, 387, 60, mok_91⟩
  · exact ⟨412, 410, 411, 60, mok_92⟩
  · exact ⟨570, 568, 569, 60, mok_93⟩
  · exact ⟨561, 559, 560, 60, mok_94⟩
  · exact ⟨614, 612, 613, 60, mok_95⟩
  · exact ⟨716, 714, 715, 60, mok_96⟩
  · exact ⟨754, 752, 753, 60, mok_97⟩
  · exact ⟨763, 761, 762, 60, mok_98⟩
  · exact ⟨634, 632, 633, 60, mok_99⟩
def pc_5 : List aM := [mi_100, mi_101, mi_102, mi_103, mi_104, mi_105, mi_106, mi_107, mi_108, mi_109, mi_110, mi_111, mi_112, mi_113, mi_114, mi_115, mi_116, mi_117, mi_118, mi_119]
theorem pk_c5 : ∀ mj ∈ pc_5, ∃ w1 w2 w3 w4, mChk pg mj w1 w2 w3 w4 = true := by
  intro mj h
  unfold pc_5 at h
  simp only [List.mem_cons, List.not_mem_nil, or_false] at h
  rcases h with rfl | rfl | rfl | rfl | rfl | rfl | rfl | rfl | rfl | rfl | rfl | rfl | rfl | rfl | rfl | rfl | rfl | rfl | rfl | rfl
  · exact ⟨639, 637, 638, 60, mok_100⟩
  · exact ⟨582, 580, 581, 60, mok_101⟩
  · exact ⟨661, 659, 660, 60, mok_102⟩
  · exact ⟨776, 774, 775, 60, mok_103⟩
  · exact ⟨790, 788, 789, 60, mok_104⟩
  · exact ⟨737, 735, 736, 60, mok_105⟩
  · exact ⟨442, 440, 441, 60, mok_106⟩
  · exact ⟨77, 76, 0, 51, mok_107⟩
  · exact ⟨180, 178, 179, 51, mok_108⟩
  · exact ⟨215, 213, 214, 51, mok_109⟩
  · exact ⟨238, 236, 237, 51, mok_110⟩
  · exact ⟨242, 240, 241, 51, mok_111⟩
  · exact ⟨278, 276, 277, 51, mok_112⟩
  · exact ⟨384, 382, 383, 51, mok_113⟩
  · exact ⟨557, 555, 556, 51, mok_114⟩
  · exact ⟨644, 642, 643, 51, mok_115⟩
  · exact ⟨712, 710, 711, 51, mok_116⟩
  · exact ⟨729, 727, 728, 51, mok_117⟩
  · exact ⟨733, 731, 732, 51, mok_118⟩
  · exact ⟨750, 748, 749, 51, mok_119⟩
def pc_6 : List aM := [mi_120, mi_121, mi_122, mi_123, mi_124, mi_125, mi_126, mi_127, mi_128, mi_129, mi_130, mi_131, mi_132, mi_133, mi_134, mi_135, mi_136, mi_137, mi_138, mi_139]
theorem pk_c6 : ∀ mj ∈ pc_6, ∃ w1 w2 w3 w4, mChk pg mj w1 w2 w3 w4 = true := by
  intro mj h
  unfold pc_6 at h
  simp only [List.mem_cons, List.not_mem_nil, or_false] at h
  rcases h with rfl | rfl | rfl | rfl | rfl | rfl | rfl | rfl | rfl | rfl | rfl | rfl | rfl | rfl | rfl | rfl | rfl | rfl | rfl | rfl
  · exact ⟨759, 757, 758, 51, mok_120⟩
  · exact ⟨768, 766, 767, 51, mok_121⟩
  · exact ⟨772, 770, 771, 51, mok_122⟩
  · exact ⟨786, 784, 785, 51, mok_123⟩
  · exact ⟨798, 796, 797, 51, mok_124⟩
  · exact ⟨802, 800, 801, 51, mok_125⟩
  · exact ⟨813, 811, 812, 51, mok_126⟩
  · exact ⟨822, 820, 821, 51, mok_127⟩
  · exact ⟨833, 831, 832, 51, mok_128⟩
  · exact ⟨838, 836, 837, 51, mok_129⟩
  · exact ⟨847, 845, 846, 51, mok_130⟩
  · exact ⟨874, 872, 873, 51, mok_131⟩
  · exact ⟨886, 884, 885, 51, mok_132⟩
  · exact ⟨894, 892, 893, 51, mok_133⟩
  · exact ⟨907, 905, 906, 51, mok_134⟩
  · exact ⟨914, 912, 913, 51, mok_135⟩
  · exact ⟨1144, 1142, 1143, 51, mok_136⟩
  · exact ⟨1158, 1156, 1157, 51, mok_137⟩
  · exact ⟨184, 183, 0, 51, mok_138⟩
  · exact ⟨219, 218, 1, 51, mok_139⟩
def pc_7 : List aM := [mi_140, mi_141, mi_142, mi_143, mi_144, mi_145, mi_146, mi_147, mi_148, mi_149, mi_150, mi_151, mi_152, mi_153, mi_154, mi_155, mi_156, mi_157, mi_158, mi_159]
theorem pk_c7 : ∀ mj ∈ pc_7, ∃ w1 w2 w3 w4, mChk pg mj w1 w2 w3 w4 = true := by
  intro mj h
  unfold pc_7 at h
  simp only [List.mem_cons, List.not_mem_nil, or_false] at h
  rcases h with rfl | rfl | rfl | rfl | rfl | rfl | rfl | rfl | rfl | rfl | rfl | rfl | rfl | rfl | rfl | rfl | rfl | rfl | rfl | rfl
  · exact ⟨293, 292, 5, 51, mok_140⟩
  · exact ⟨262, 261, 3, 51, mok_141⟩
  · exact ⟨648, 647, 8, 51, mok_142⟩
  · exact ⟨258, 257, 2, 51, mok_143⟩
  · exact ⟨1162, 1161, 21, 51, mok_144⟩
  · exact ⟨281, 280, 0, 51, mok_145⟩
  · exact ⟨825, 824, 0, 51, mok_146⟩
  · exact ⟨285, 284, 4, 51, mok_147⟩
  · exact ⟨438, 437, 7, 51, mok_148⟩
  · exact ⟨855, 854, 15, 51, mok_149⟩
  · exact ⟨851, 850, 14, 51, mok_150⟩
  · exact ⟨866, 865, 0, 51, mok_151⟩
  · exact ⟨878, 877, 16, 51, mok_152⟩
  · exact ⟨1166, 1165, 22, 51, mok_153⟩
  · exact ⟨882, 881, 17, 51, mok_154⟩
  · exact ⟨890, 889, 18, 51, mok_155⟩
  · exact ⟨898, 897, 19, 51, mok_156⟩
  · exact ⟨902, 901, 20, 51, mok_157⟩
  · exact ⟨1171, 1170, 0, 57, mok_158⟩
  · exact ⟨1283, 1282, 0, 57, mok_159⟩
def pc_8 : List aM := [mi_160, mi_161, mi_162, mi_163, mi_164, mi_165, mi_166, mi_167, mi_168, mi_169, mi_170, mi_171, mi_172, mi_173, mi_174, mi_175, mi_176, mi_177, mi_178, mi_179]
theorem pk_c8 : ∀ mj ∈ pc_8, ∃ w1 w2 w3 w4, mChk pg mj w1 w2 w3 w4 = true := by
  intro mj h
  unfold pc_8 at h
  simp only [List.mem_cons, List.not_mem_nil, or_false] at h
  rcases h with rfl | rfl | rfl | rfl | rfl | rfl | rfl | rfl | rfl | rfl | rfl | rfl | rfl | rfl | rfl | rfl | rfl | rfl | rfl | rfl
  · exact ⟨1517, 1516, 0, 57, mok_160⟩
  · exact ⟨1271, 1269, 1270, 57, mok_161⟩
  · exact ⟨1280, 1279, 23, 57, mok_162⟩
  · exact ⟨1286, 1285, 0, 57, mok_163⟩
  · exact ⟨1276, 1274, 1275, 57, mok_164⟩
  · exact ⟨1290, 1288, 1289, 57, mok_165⟩
  · exact ⟨1297, 1296, 0, 57, mok_166⟩
  · exact ⟨1300, 1299, 0, 57, mok_167⟩
  · exact ⟨1371, 1370, 0, 57, mok_168⟩
  · exact ⟨1308, 1307, 25, 57, mok_169⟩
  · exact ⟨1304, 1303, 24, 57, mok_170⟩
  · exact ⟨1294, 1292, 1293, 57, mok_171⟩
  · exact ⟨1316, 1315, 26, 57, mok_172⟩
  · exact ⟨1320, 1319, 27, 57, mok_173⟩
  · exact ⟨1312, 1310, 1311, 57, mok_174⟩
  · exact ⟨1328, 1327, 28, 57, mok_175⟩
  · exact ⟨1340, 1339, 31, 57, mok_176⟩
  · exact ⟨1344, 1343, 32, 57, mok_177⟩
  · exact ⟨1336, 1335, 30, 57, mok_178⟩
  · exact ⟨1348, 1347, 33, 57, mok_179⟩
def pc_9 : List aM := [mi_180, mi_181, mi_182, mi_183, mi_184, mi_185, mi_186, mi_187, mi_188, mi_189, mi_190, mi_191, mi_192, mi_193, mi_194, mi_195, mi_196, mi_197, mi_198, mi_199]
theorem pk_c9 : ∀ mj ∈ pc_9, ∃ w1 w2 w3 w4, mChk pg mj w1 w2 w3 w4 = true := by
  intro mj h
  unfold pc_9 at h
  simp only [List.mem_cons, List.not_mem_nil, or_false] at h
  rcases h with rfl | rfl | rfl | rfl | rfl | rfl | rfl | rfl | rfl | rfl | rfl | rfl | rfl | rfl | rfl | rfl | rfl | rfl | rfl | rfl
  · exact ⟨1368, 1367, 38, 57, mok_180⟩
  · exact ⟨1332, 1331, 29, 57, mok_181⟩
  · exact ⟨1356, 1355, 35, 57, mok_182⟩
  · exact ⟨1360, 1359, 36, 57, mok_183⟩
  · exact ⟨1364, 1363, 37, 57, mok_184⟩
  · exact ⟨1324, 1322, 1323, 57, mok_185⟩
  · exact ⟨1401, 1400, 0, 57, mok_186⟩
  · exact ⟨1398, 1397, 0, 57, mok_187⟩
  · exact ⟨1395, 1394, 41, 57, mok_188⟩
  · exact ⟨1391, 1390, 40, 57, mok_189⟩
  · exact ⟨1410, 1409, 43, 57, mok_190⟩
  · exact ⟨1405, 1404, 42, 57, mok_191⟩
  · exact ⟨1387, 1386, 39, 57, mok_192⟩
  · exact ⟨1383, 1381, 1382, 57, mok_193⟩
  · exact ⟨1414, 1412, 1413, 57, mok_194⟩
  · exact ⟨1434, 1432, 1433, 57, mok_195⟩
  · exact ⟨1438, 1436, 1437, 57, mok_196⟩
  · exact ⟨1352, 1351, 34, 57, mok_197⟩
  · exact ⟨1442, 1440, 1441, 57, mok_198⟩
  · exact ⟨1446, 1444, 1445, 57, mok_199⟩
def pc_10 : List aM := [mi_200, mi_201, mi_202, mi_203, mi_204, mi_205, mi_206, mi_207, mi_208, mi_209, mi_210, mi_211, mi_212, mi_213, mi_214, mi_215, mi_216, mi_217, mi_218, mi_219]
theorem pk_c10 : ∀ mj ∈ pc_10, ∃ w1 w2 w3 w4, mChk pg mj w1 w2 w3 w4 = true := by
  intro mj h
  unfold pc_10 at h
  simp only [List.mem_cons, List.not_mem_nil, or_false] at h
  rcases h with rfl | rfl | rfl | rfl | rfl | rfl | rfl | rfl | rfl | rfl | rfl | rfl | rfl | rfl | rfl | rfl | rfl | rfl | rfl | rfl
  · exact ⟨1450, 1448, 1449, 57, mok_200⟩
  · exact ⟨1454, 1452, 1453, 57, mok_201⟩
  · exact ⟨1458, 1456, 1457, 57, mok_202⟩
  · exact ⟨1462, 1460, 1461, 57, mok_203⟩
  · exact ⟨1430, 1429, 46, 57, mok_204⟩
  · exact ⟨1426, 1425, 45, 57, mok_205⟩
  · exact ⟨1422, 1421, 44, 57, mok_206⟩
  · exact ⟨1418, 1416, 1417, 57, mok_207⟩
  · exact ⟨1467, 1465, 1466, 57, mok_208⟩
  · exact ⟨1375, 1373, 1374, 57, mok_209⟩
  · exact ⟨1379, 1378, 0, 57, mok_210⟩
  · exact ⟨1472, 1470, 1471, 57, mok_211⟩
  · exact ⟨1482, 1481, 47, 57, mok_212⟩
  · exact ⟨1478, 1476, 1477, 57, mok_213⟩
  · exact ⟨1486, 1484, 1485, 57, mok_214⟩
  · exact ⟨1490, 1488, 1489, 57, mok_215⟩
  · exact ⟨1498, 1497, 48, 57, mok_216⟩
  · exact ⟨1494, 1492, 1493, 57, mok_217⟩
  · exact ⟨1503, 1501, 1502, 57, mok_218⟩
  · exact ⟨1507, 1505, 1506, 57, mok_219⟩
def pc_11 : List aM := [mi_220, mi_221, mi_222, mi_223, mi_224, mi_0, mi_226, mi_227, mi_228, mi_229, mi_230, mi_231, mi_232, mi_233, mi_234, mi_235, mi_236, mi_237, mi_238, mi_239]
theorem pk_c11 : ∀ mj ∈ pc_11, ∃ w1 w2 w3 w4, mChk pg mj w1 w2 w3 w4 = true := by
  intro mj h
  unfold pc_11 at h
  simp only [List.mem_cons, List.not_mem_nil, or_false] at h
  rcases h with rfl | rfl | rfl | rfl | rfl | rfl | rfl | rfl | rfl | rfl | rfl | rfl | rfl | rfl | rfl | rfl | rfl | rfl | rfl | rfl
  · exact ⟨1514, 1512, 1513, 57, mok_220⟩
  · exact ⟨1525, 1524, 49, 57, mok_221⟩
  · exact ⟨1521, 1519, 1520, 57, mok_222⟩
  · exact ⟨1532, 1530, 1531, 57, mok_223⟩
  · exact ⟨1536, 1534, 1535, 57, mok_224⟩
  · exact ⟨311, 310, 0, 61, mok_0⟩
  · exact ⟨690, 689, 0, 65, mok_226⟩
  · exact ⟨910, 909, 0, 66, mok_227⟩
  · exact ⟨1133, 1132, 0, 66, mok_228⟩
  · exact ⟨953, 952, 0, 66, mok_229⟩
  · exact ⟨124, 123, 0, 54, mok_230⟩
  · exact ⟨127, 126, 0, 53, mok_231⟩
  · exact ⟨1137, 1135, 1136, 54, mok_232⟩
  · exact ⟨1140, 1139, 0, 53, mok_233⟩
  · exact ⟨1148, 1146, 1147, 54, mok_234⟩
  · exact ⟨1151, 1150, 0, 53, mok_235⟩
  · exact ⟨918, 916, 917, 54, mok_236⟩
  · exact ⟨921, 920, 0, 53, mok_237⟩
  · exact ⟨925, 924, 0, 53, mok_238⟩
  · exact ⟨961, 958, 0, 53, mok_239⟩
def pc_12 : List aM := [mi_240, mi_241, mi_242, mi_243, mi_244, mi_245, mi_246, mi_247, mi_248, mi_249, mi_250, mi_251, mi_252, mi_253, mi_254, mi_255, mi_256, mi_257, mi_258]
theorem pk_c12 : ∀ mj ∈ pc_12, ∃ w1 w2 w3 w4, mChk pg mj w1 w2 w3 w4 = true := by
  intro mj h
  unfold pc_12 at h
  simp only [List.mem_cons, List.not_mem_nil, or_false] at h
  rcases h with rfl | rfl | rfl | rfl | rfl | rfl | rfl | rfl | rfl | rfl | rfl | rfl | rfl | rfl | rfl | rfl | rfl | rfl | rfl
  · exact ⟨1120, 1118, 1119, 54, mok_240⟩
  · exact ⟨1123, 1122, 0, 53, mok_241⟩
  · exact ⟨1126, 1125, 0, 70, mok_242⟩
  · exact ⟨1063, 1061, 1062, 54, mok_243⟩
  · exact ⟨1066, 1065, 0, 53, mok_244⟩
  · exact ⟨1069, 1068, 0, 72, mok_245⟩
  · exact ⟨1072, 1071, 0, 72, mok_246⟩
  · exact ⟨983, 981, 982, 54, mok_247⟩
  · exact ⟨986, 985, 0, 53, mok_248⟩
  · exact ⟨1029, 1028, 0, 53, mok_249⟩
  · exact ⟨1033, 1032, 0, 53, mok_250⟩
  · exact ⟨1057, 1055, 1056, 55, mok_251⟩
  · exact ⟨1024, 1022, 1023, 55, mok_252⟩
  · exact ⟨1020, 1018, 1019, 55, mok_253⟩
  · exact ⟨1093, 1091, 1092, 55, mok_254⟩
  · exact ⟨1097, 1095, 1096, 55, mok_255⟩
  · exact ⟨1103, 1102, 0, 55, mok_256⟩
  · exact ⟨1100, 1099, 0, 70, mok_257⟩
  · exact ⟨1106, 1105, 0, 71, mok_258⟩
set_option maxRecDepth 100000 in
theorem pgL_eq : pgL = pc_0 ++ (pc_1 ++ (pc_2 ++ (pc_3 ++ (pc_4 ++ (pc_5 ++ (pc_6 ++ (pc_7 ++ (pc_8 ++ (pc_9 ++ (pc_10 ++ (pc_11 ++ (pc_12)))))))))))) := rfl
theorem pg_ok : aOk pg := by
  intro j mj h
  have hm : mj ∈ pgL := List.mem_of_getElem? h
  rw [pgL_eq] at hm
  rcases List.mem_append.mp hm with hm | hm
  · exact pk_c0 mj hm
  rcases List.mem_append.mp hm with hm | hm
  · exact pk_c1 mj hm
  rcases List.mem_append.mp hm with hm | hm
  · exact pk_c2 mj hm
  rcases List.mem_append.mp hm with hm | hm
  · exact pk_c3 mj hm
  rcases List.mem_append.mp hm with hm | hm
  · exact pk_c4 mj hm
  rcases List.mem_append.mp hm with hm | hm
  · exact pk_c5 mj hm
  rcases List.mem_append.mp hm with hm | hm
  · exact pk_c6 mj hm
  rcases List.mem_append.mp hm with hm | hm
  · exact pk_c7 mj hm
  rcases List.mem_append.mp hm with hm | hm
  · exact pk_c8 mj hm
  rcases List.mem_append.mp hm with hm | hm
  · exact pk_c9 mj hm
  rcases List.mem_append.mp hm with hm | hm
  · exact pk_c10 mj hm
  rcases List.mem_append.mp hm with hm | hm
  · exact pk_c11 mj hm
  exact pk_c12 mj hm
