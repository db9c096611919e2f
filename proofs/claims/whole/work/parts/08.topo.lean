def tpC : List ODt := [.inl (9, [(1, 1), (1, 3), (1, 13), (1, 15), (0, 0), (0, 0), (1, 28), (1, 33), (1, 38), (1, 43), (0, 0), (1, 48), (1, 111), (1, 130), (1, 131)]), .inl (8, [(1, 2), (0, 0)]), .inr (0, 160, 0), .inl (7, [(1, 1), (0, 0), (1, 4), (1, 5), (1, 12), (0, 0), (0, 0), (0, 0)]), .inr (0, 5, 0), .inr (2, 6, 6), .inr (0, 8, 0), .inr (0, 8, 0), .inr (0, 8, 0), .inr (0, 8, 0), .inr (0, 8, 0), .inr (0, 8, 0), .inr (0, 3, 0), .inl (2, [(1, 1), (0, 0), (1, 14), (0, 0)]), .inr (0, 160, 0), .inr (3, 4, 16), .inl (1, [(1, 20), (1, 24), (0, 0)]), .inl (1, [(1, 21), (1, 25), (0, 0)]), .inl (1, [(1, 22), (1, 26), (0, 0)]), .inl (1, [(1, 23), (1, 27), (0, 0)]), .inr (0, 160, 0), .inr (0, 160, 0), .inr (0, 160, 0), .inr (0, 160, 0), .inr (0, 160, 0), .inr (0, 160, 0), .inr (0, 160, 0), .inr (0, 160, 0), .inl (6, [(0, 0), (0, 0), (0, 0), (0, 0), (1, 29), (1, 30), (1, 31), (1, 32)]), .inr (0, 5, 0), .inr (0, 6, 0), .inr (0, 6, 0), .inr (0, 6, 0), .inl (5, [(0, 0), (1, 34), (1, 35), (1, 36), (1, 37)]), .inr (0, 30, 0), .inr (0, 6, 0), .inr (0, 6, 0), .inr (0, 6, 0), .inl (5, [(0, 0), (1, 39), (1, 40), (1, 41), (1, 42)]), .inr (0, 30, 0), .inr (0, 6, 0), .inr (0, 6, 0), .inr (0, 6, 0), .inl (5, [(0, 0), (1, 44), (1, 45), (1, 46), (1, 47)]), .inr (0, 30, 0), .inr (0, 6, 0), .inr (0, 6, 0), .inr (0, 6, 0), .inl (4, [(1, 49), (1, 50), (0, 0), (0, 0)]), .inr (2, 30, 51), .inr (2, 30, 81), .inr (0, 30, 0), .inr (0, 30, 0), .inr (0, 30, 0), .inr (0, 30, 0), .inr (0, 30, 0), .inr (0, 30, 0), .inr (0, 30, 0), .inr (0, 30, 0), .inr (0, 30, 0), .inr (0, 30, 0), .inr (0, 30, 0), .inr (0, 30, 0), .inr (0, 30, 0), .inr (0, 30, 0), .inr (0, 30, 0), .inr (0, 30, 0), .inr (0, 30, 0), .inr (0, 30, 0), .inr (0, 30, 0), .inr (0, 30, 0), .inr (0, 30, 0), .inr (0, 30, 0), .inr (0, 30, 0), .inr (0, 30, 0), .inr (0, 30, 0), .inr (0, 30, 0), .inr (0, 30, 0), .inr (0, 30, 0), .inr (0, 30, 0), .inr (0, 30, 0), .inr (0, 6, 0), .inr (0, 6, 0), .inr (0, 6, 0), .inr (0, 6, 0), .inr (0, 6, 0), .inr (0, 6, 0), .inr (0, 6, 0), .inr (0, 6, 0), .inr (0, 6, 0), .inr (0, 6, 0), .inr (0, 6, 0), .inr (0, 6, 0), .inr (0, 6, 0), .inr (0, 6, 0), .inr (0, 6, 0), .inr (0, 6, 0), .inr (0, 6, 0), .inr (0, 6, 0), .inr (0, 6, 0), .inr (0, 6, 0), .inr (0, 6, 0), .inr (0, 6, 0), .inr (0, 6, 0), .inr (0, 6, 0), .inr (0, 6, 0), .inr (0, 6, 0), .inr (0, 6, 0), .inr (0, 6, 0), .inr (0, 6, 0), .inr (0, 6, 0), .inl (3, [(1, 28), (1, 112), (1, 113), (1, 127), (1, 128), (1, 129), (2, 16), (0, 0), (0, 0), (0, 0), (0, 0), (0, 0), (0, 0)]), .inr (2, 7, 114), .inr (2, 6, 121), .inr (0, 6, 0), .inr (0, 6, 0), .inr (0, 6, 0), .inr (0, 6, 0), .inr (0, 6, 0), .inr (0, 6, 0), .inr (0, 6, 0), .inr (0, 6, 0), .inr (0, 6, 0), .inr (0, 6, 0), .inr (0, 6, 0), .inr (0, 6, 0), .inr (0, 6, 0), .inr (0, 6, 0), .inr (0, 6, 0), .inr (0, 6, 0), .inl (0, [(1, 28), (1, 33), (1, 111), (0, 0), (0, 0), (0, 0)]), .inr (0, 6, 0)]
theorem oC_0 : tpC[0]? = some (.inl (9, [(1, 1), (1, 3), (1, 13), (1, 15), (0, 0), (0, 0), (1, 28), (1, 33), (1, 38), (1, 43), (0, 0), (1, 48), (1, 111), (1, 130), (1, 131)])) := rfl
theorem oC_1 : tpC[1]? = some (.inl (8, [(1, 2), (0, 0)])) := rfl
theorem oC_2 : tpC[2]? = some (.inr (0, 160, 0)) := rfl
theorem oC_3 : tpC[3]? = some (.inl (7, [(1, 1), (0, 0), (1, 4), (1, 5), (1, 12), (0, 0), (0, 0), (0, 0)])) := rfl
theorem oC_4 : tpC[4]? = some (.inr (0, 5, 0)) := rfl
theorem oC_5 : tpC[5]? = some (.inr (2, 6, 6)) := rfl
theorem oC_6 : tpC[6]? = some (.inr (0, 8, 0)) := rfl
theorem oC_7 : tpC[7]? = some (.inr (0, 8, 0)) := rfl
theorem oC_8 : tpC[8]? = some (.inr (0, 8, 0)) := rfl
theorem oC_9 : tpC[9]? = some (.inr (0, 8, 0)) := rfl
theorem oC_10 : tpC[10]? = some (.inr (0, 8, 0)) := rfl
theorem oC_11 : tpC[11]? = some (.inr (0, 8, 0)) := rfl
theorem oC_12 : tpC[12]? = some (.inr (0, 3, 0)) := rfl
theorem oC_13 : tpC[13]? = some (.inl (2, [(1, 1), (0, 0), (1, 14), (0, 0)])) := rfl
theorem oC_14 : tpC[14]? = some (.inr (0, 160, 0)) := rfl
theorem oC_15 : tpC[15]? = some (.inr (3, 4, 16)) := rfl
theorem oC_16 : tpC[16]? = some (.inl (1, [(1, 20), (1, 24), (0, 0)])) := rfl
theorem oC_17 : tpC[17]? = some (.inl (1, [(1, 21), (1, 25), (0, 0)])) := rfl
theorem oC_18 : tpC[18]? = some (.inl (1, [(1, 22), (1, 26), (0, 0)])) := rfl
theorem oC_19 : tpC[19]? = some (.inl (1, [(1, 23), (1, 27), (0, 0)])) := rfl
theorem oC_20 : tpC[20]? = some (.inr (0, 160, 0)) := rfl
theorem oC_21 : tpC[21]? = some (.inr (0, 160, 0)) := rfl
theorem oC_22 : tpC[22]? = some (.inr (0, 160, 0)) := rfl
theorem oC_23 : tpC[23]? = some (.inr (0, 160, 0)) := rfl
theorem oC_24 : tpC[24]? = some (.inr (0, 160, 0)) := rfl
theorem oC_25 : tpC[25]? = some (.inr (0, 160, 0)) := rfl
theorem oC_26 : tpC[26]? = some (.inr (0, 160, 0)) := rfl
theorem oC_27 : tpC[27]? = some (.inr (0, 160, 0)) := rfl
theorem oC_28 : tpC[28]? = some (.inl (6, [(0, 0), (0, 0), (0, 0), (0, 0), (1, 29), (1, 30), (1, 31), (1, 32)])) := rfl
theorem oC_29 : tpC[29]? = some (.inr (0, 5, 0)) := rfl
theorem oC_30 : tpC[30]? = some (.inr (0, 6, 0)) := rfl
theorem oC_31 : tpC[31]? = some (.inr (0, 6, 0)) := rfl
theorem oC_32 : tpC[32]? = some (.inr (0, 6, 0)) := rfl
theorem oC_33 : tpC[33]? = some (.inl (5, [(0, 0), (1, 34), (1, 35), (1, 36), (1, 37)])) := rfl
theorem oC_34 : tpC[34]? = some (.inr (0, 30, 0)) := rfl
theorem oC_35 : tpC[35]? = some (.inr (0, 6, 0)) := rfl
theorem oC_36 : tpC[36]? = some (.inr (0, 6, 0)) := rfl
theorem oC_37 : tpC[37]? = some (.inr (0, 6, 0)) := rfl
theorem oC_38 : tpC[38]? = some (.inl (5, [(0, 0), (1, 39), (1, 40), (1, 41), (1, 42)])) := rfl
theorem oC_39 : tpC[39]? = some (.inr (0, 30, 0)) := rfl
theorem oC_40 : tpC[40]? = some (.inr (0, 6, 0)) := rfl
theorem oC_41 : tpC[41]? = some (.inr (0, 6, 0)) := rfl
theorem oC_42 : tpC[42]? = some (.inr (0, 6, 0)) := rfl
theorem oC_43 : tpC[43]? = some (.inl (5, [(0, 0), (1, 44), (1, 45), (1, 46), (1, 47)])) := rfl
theorem oC_44 : tpC[44]? = some (.inr (0, 30, 0)) := rfl
theorem oC_45 : tpC[45]? = some (.inr (0, 6, 0)) := rfl
theorem oC_46 : tpC[46]? = some (.inr (0, 6, 0)) := rfl
theorem oC_47 : tpC[47]? = some (.inr (0, 6, 0)) := rfl
theorem oC_48 : tpC[48]? = some (.inl (4, [(1, 49), (1, 50), (0, 0), (0, 0)])) := rfl
theorem oC_49 : tpC[49]? = some (.inr (2, 30, 51)) := rfl
theorem oC_50 : tpC[50]? = some (.inr (2, 30, 81)) := rfl
theorem oC_51 : tpC[51]? = some (.inr (0, 30, 0)) := rfl
theorem oC_52 : tpC[52]? = some (.inr (0, 30, 0)) := rfl
theorem oC_53 : tpC[53]? = some (.inr (0, 30, 0)) := rfl
theorem oC_54 : tpC[54]? = some (.inr (0, 30, 0)) := rfl
theorem oC_55 : tpC[55]? = some (.inr (0, 30, 0)) := rfl
theorem oC_56 : tpC[56]? = some (.inr (0, 30, 0)) := rfl
theorem oC_57 : tpC[57]? = some (.inr (0, 30, 0)) := rfl
theorem oC_58 : tpC[58]? = some (.inr (0, 30, 0)) := rfl
theorem oC_59 : tpC[59]? = some (.inr (0, 30, 0)) := rfl
theorem oC_60 : tpC[60]? = some (.inr (0, 30, 0)) := rfl
theorem oC_61 : tpC[61]? = some (.inr (0, 30, 0)) := rfl
theorem oC_62 : tpC[62]? = some (.inr (0, 30, 0)) := rfl
theorem oC_63 : tpC[63]? = some (.inr (0, 30, 0)) := rfl
theorem oC_64 : tpC[64]? = some (.inr (0, 30, 0)) := rfl
theorem oC_65 : tpC[65]? = some (.inr (0, 30, 0)) := rfl
theorem oC_66 : tpC[66]? = some (.inr (0, 30, 0)) := rfl
theorem oC_67 : tpC[67]? = some (.inr (0, 30, 0)) := rfl
theorem oC_68 : tpC[68]? = some (.inr (0, 30, 0)) := rfl
theorem oC_69 : tpC[69]? = some (.inr (0, 30, 0)) := rfl
theorem oC_70 : tpC[70]? = some (.inr (0, 30, 0)) := rfl
theorem oC_71 : tpC[71]? = some (.inr (0, 30, 0)) := rfl
theorem oC_72 : tpC[72]? = some (.inr (0, 30, 0)) := rfl
theorem oC_73 : tpC[73]? = some (.inr (0, 30, 0)) := rfl
theorem oC_74 : tpC[74]? = some (.inr (0, 30, 0)) := rfl
theorem oC_75 : tpC[75]? = some (.inr (0, 30, 0)) := rfl
theorem oC_76 : tpC[76]? = some (.inr (0, 30, 0)) := rfl
theorem oC_77 : tpC[77]? = some (.inr (0, 30, 0)) := rfl
theorem oC_78 : tpC[78]? = some (.inr (0, 30, 0)) := rfl
theorem oC_79 : tpC[79]? = some (.inr (0, 30, 0)) := rfl
theorem oC_80 : tpC[80]? = some (.inr (0, 30, 0)) := rfl
theorem oC_81 : tpC[81]? = some (.inr (0, 6, 0)) := rfl
theorem oC_82 : tpC[82]? = some (.inr (0, 6, 0)) := rfl
theorem oC_83 : tpC[83]? = some (.inr (0, 6, 0)) := rfl
theorem oC_84 : tpC[84]? = some (.inr (0, 6, 0)) := rfl
theorem oC_85 : tpC[85]? = some (.inr (0, 6, 0)) := rfl
theorem oC_86 : tpC[86]? = some (.inr (0, 6, 0)) := rfl
theorem oC_87 : tpC[87]? = some (.inr (0, 6, 0)) := rfl
theorem oC_88 : tpC[88]? = some (.inr (0, 6, 0)) := rfl
theorem oC_89 : tpC[89]? = some (.inr (0, 6, 0)) := rfl
theorem oC_90 : tpC[90]? = some (.inr (0, 6, 0)) := rfl
theorem oC_91 : tpC[91]? = some (.inr (0, 6, 0)) := rfl
theorem oC_92 : tpC[92]? = some (.inr (0, 6, 0)) := rfl
theorem oC_93 : tpC[93]? = some (.inr (0, 6, 0)) := rfl
theorem oC_94 : tpC[94]? = some (.inr (0, 6, 0)) := rfl
theorem oC_95 : tpC[95]? = some (.inr (0, 6, 0)) := rfl
theorem oC_96 : tpC[96]? = some (.inr (0, 6, 0)) := rfl
theorem oC_97 : tpC[97]? = some (.inr (0, 6, 0)) := rfl
theorem oC_98 : tpC[98]? = some (.inr (0, 6, 0)) := rfl
theorem oC_99 : tpC[99]? = some (.inr (0, 6, 0)) := rfl
theorem oC_100 : tpC[100]? = some (.inr (0, 6, 0)) := rfl
theorem oC_101 : tpC[101]? = some (.inr (0, 6, 0)) := rfl
theorem oC_102 : tpC[102]? = some (.inr (0, 6, 0)) := rfl
theorem oC_103 : tpC[103]? = some (.inr (0, 6, 0)) := rfl
theorem oC_104 : tpC[104]? = some (.inr (0, 6, 0)) := rfl
theorem oC_105 : tpC[105]? = some (.inr (0, 6, 0)) := rfl
theorem oC_106 : tpC[106]? = some (.inr (0, 6, 0)) := rfl
theorem oC_107 : tpC[107]? = some (.inr (0, 6, 0)) := rfl
theorem oC_108 : tpC[108]? = some (.inr (0, 6, 0)) := rfl
theorem oC_109 : tpC[109]? = some (.inr (0, 6, 0)) := rfl
theorem oC_110 : tpC[110]? = some (.inr (0, 6, 0)) := rfl
theorem oC_111 : tpC[111]? = some (.inl (3, [(1, 28), (1, 112), (1, 113), (1, 127), (1, 128), (1, 129), (2, 16), (0, 0), (0, 0), (0, 0), (0, 0), (0, 0), (0, 0)])) := rfl
theorem oC_112 : tpC[112]? = some (.inr (2, 7, 114)) := rfl
theorem oC_113 : tpC[113]? = some (.inr (2, 6, 121)) := rfl
theorem oC_114 : tpC[114]? = some (.inr (0, 6, 0)) := rfl
theorem oC_115 : tpC[115]? = some (.inr (0, 6, 0)) := rfl
theorem oC_116 : tpC[116]? = some (.inr (0, 6, 0)) := rfl
theorem oC_117 : tpC[117]? = some (.inr (0, 6, 0)) := rfl
theorem oC_118 : tpC[118]? = some (.inr (0, 6, 0)) := rfl
theorem oC_119 : tpC[119]? = some (.inr (0, 6, 0)) := rfl
theorem oC_120 : tpC[120]? = some (.inr (0, 6, 0)) := rfl
theorem oC_121 : tpC[121]? = some (.inr (0, 6, 0)) := rfl
theorem oC_122 : tpC[122]? = some (.inr (0, 6, 0)) := rfl
theorem oC_123 : tpC[123]? = some (.inr (0, 6, 0)) := rfl
theorem oC_124 : tpC[124]? = some (.inr (0, 6, 0)) := rfl
theorem oC_125 : tpC[125]? = some (.inr (0, 6, 0)) := rfl
theorem oC_126 : tpC[126]? = some (.inr (0, 6, 0)) := rfl
theorem oC_127 : tpC[127]? = some (.inr (0, 6, 0)) := rfl
theorem oC_128 : tpC[128]? = some (.inr (0, 6, 0)) := rfl
theorem oC_129 : tpC[129]? = some (.inr (0, 6, 0)) := rfl
theorem oC_130 : tpC[130]? = some (.inl (0, [(1, 28), (1, 33), (1, 111), (0, 0), (0, 0), (0, 0)])) := rfl
theorem oC_131 : tpC[131]? = some (.inr (0, 6, 0)) := rfl
theorem rC_5 : ∀ j, j < 6 → tpC[6 + j]? = some (.inr (0, 8, 0))
  | 0, _ => rfl
  | 1, _ => rfl
  | 2, _ => rfl
  | 3, _ => rfl
  | 4, _ => rfl
  | 5, _ => rfl
  | j + 6, h => absurd h (by omega)
theorem rC_49 : ∀ j, j < 30 → tpC[51 + j]? = some (.inr (0, 30, 0))
  | 0, _ => rfl
  | 1, _ => rfl
  | 2, _ => rfl
  | 3, _ => rfl
  | 4, _ => rfl
  | 5, _ => rfl
  | 6, _ => rfl
  | 7, _ => rfl
  | 8, _ => rfl
  | 9, _ => rfl
  | 10, _ => rfl
  | 11, _ => rfl
  | 12, _ => rfl
  | 13, _ => rfl
  | 14, _ => rfl
  | 15, _ => rfl
  | 16, _ => rfl
  | 17, _ => rfl
  | 18, _ => rfl
  | 19, _ => rfl
  | 20, _ => rfl
  | 21, _ => rfl
  | 22, _ => rfl
  | 23, _ => rfl
  | 24, _ => rfl
  | 25, _ => rfl
  | 26, _ => rfl
  | 27, _ => rfl
  | 28, _ => rfl
  | 29, _ => rfl
  | j + 30, h => absurd h (by omega)
theorem rC_50 : ∀ j, j < 30 → tpC[81 + j]? = some (.inr (0, 6, 0))
  | 0, _ => rfl
  | 1, _ => rfl
  | 2, _ => rfl
  | 3, _ => rfl
  | 4, _ => rfl
  | 5, _ => rfl
  | 6, _ => rfl
  | 7, _ => rfl
  | 8, _ => rfl
  | 9, _ => rfl
  | 10, _ => rfl
  | 11, _ => rfl
  | 12, _ => rfl
  | 13, _ => rfl
  | 14, _ => rfl
  | 15, _ => rfl
  | 16, _ => rfl
  | 17, _ => rfl
  | 18, _ => rfl
  | 19, _ => rfl
  | 20, _ => rfl
  | 21, _ => rfl
  | 22, _ => rfl
  | 23, _ => rfl
  | 24, _ => rfl
  | 25, _ => rfl
  | 26, _ => rfl
  | 27, _ => rfl
  | 28, _ => rfl
  | 29, _ => rfl
  | j + 30, h => absurd h (by omega)
theorem rC_112 : ∀ j, j < 7 → tpC[114 + j]? = some (.inr (0, 6, 0))
  | 0, _ => rfl
  | 1, _ => rfl
  | 2, _ => rfl
  | 3, _ => rfl
  | 4, _ => rfl
  | 5, _ => rfl
  | 6, _ => rfl
  | j + 7, h => absurd h (by omega)
theorem rC_113 : ∀ j, j < 6 → tpC[121 + j]? = some (.inr (0, 6, 0))
  | 0, _ => rfl
  | 1, _ => rfl
  | 2, _ => rfl
  | 3, _ => rfl
  | 4, _ => rfl
  | 5, _ => rfl
  | j + 6, h => absurd h (by omega)
def tpM : List ODt := [.inl (10, [(0, 0), (1, 1), (1, 2), (1, 3), (1, 4), (2, 1), (0, 0), (0, 0), (0, 0), (0, 0), (0, 0), (0, 0), (0, 0), (0, 0), (0, 0), (1, 204), (1, 200), (0, 0), (1, 5), (1, 6), (1, 7), (1, 8), (1, 9), (1, 10), (0, 0), (0, 0), (0, 0), (0, 0), (1, 11), (1, 12), (1, 13), (0, 0), (0, 0), (1, 14), (1, 15), (1, 16), (1, 17), (1, 18), (1, 19), (0, 0), (0, 0), (0, 0), (0, 0), (0, 0), (1, 20), (1, 21), (0, 0), (1, 22), (1, 23), (0, 0), (0, 0), (0, 0), (1, 24), (1, 25), (1, 26), (1, 27), (1, 28), (0, 0), (0, 0)]), .inr (1, 160, 0), .inr (1, 640, 0), .inr (0, 4, 0), .inr (0, 128, 0), .inr (0, 5, 0), .inr (0, 5, 0), .inr (0, 48, 0), .inr (0, 48, 0), .inr (0, 3, 0), .inr (0, 3, 0), .inr (0, 6, 0), .inr (0, 6, 0), .inr (0, 6, 0), .inr (0, 6, 0), .inr (0, 6, 0), .inr (0, 36, 0), .inr (0, 6, 0), .inr (0, 6, 0), .inr (0, 6, 0), .inr (0, 900, 0), .inr (0, 180, 0), .inr (0, 6, 0), .inr (0, 6, 0), .inr (0, 6, 0), .inr (0, 48, 0), .inr (0, 6, 0), .inr (0, 6, 0), .inr (0, 6, 0)]
theorem oM_0 : tpM[0]? = some (.inl (10, [(0, 0), (1, 1), (1, 2), (1, 3), (1, 4), (2, 1), (0, 0), (0, 0), (0, 0), (0, 0), (0, 0), (0, 0), (0, 0), (0, 0), (0, 0), (1, 204), (1, 200), (0, 0), (1, 5), (1, 6), (1, 7), (1, 8), (1, 9), (1, 10), (0, 0), (0, 0), (0, 0), (0, 0), (1, 11), (1, 12), (1, 13), (0, 0), (0, 0), (1, 14), (1, 15), (1, 16), (1, 17), (1, 18), (1, 19), (0, 0), (0, 0), (0, 0), (0, 0), (0, 0), (1, 20), (1, 21), (0, 0), (1, 22), (1, 23), (0, 0), (0, 0), (0, 0), (1, 24), (1, 25), (1, 26), (1, 27), (1, 28), (0, 0), (0, 0)])) := rfl
theorem oM_1 : tpM[1]? = some (.inr (1, 160, 0)) := rfl
theorem oM_2 : tpM[2]? = some (.inr (1, 640, 0)) := rfl
theorem oM_3 : tpM[3]? = some (.inr (0, 4, 0)) := rfl
theorem oM_4 : tpM[4]? = some (.inr (0, 128, 0)) := rfl
theorem oM_5 : tpM[5]? = some (.inr (0, 5, 0)) := rfl
theorem oM_6 : tpM[6]? = some (.inr (0, 5, 0)) := rfl
theorem oM_7 : tpM[7]? = some (.inr (0, 48, 0)) := rfl
theorem oM_8 : tpM[8]? = some (.inr (0, 48, 0)) := rfl
theorem oM_9 : tpM[9]? = some (.inr (0, 3, 0)) := rfl
theorem oM_10 : tpM[10]? = some (.inr (0, 3, 0)) := rfl
theorem oM_11 : tpM[11]? = some (.inr (0, 6, 0)) := rfl
theorem oM_12 : tpM[12]? = some (.inr (0, 6, 0)) := rfl
theorem oM_13 : tpM[13]? = some (.inr (0, 6, 0)) := rfl
theorem oM_14 : tpM[14]? = some (.inr (0, 6, 0)) := rfl
theorem oM_15 : tpM[15]? = some (.inr (0, 6, 0)) := rfl
theorem oM_16 : tpM[16]? = some (.inr (0, 36, 0)) := rfl
theorem oM_17 : tpM[17]? = some (.inr (0, 6, 0)) := rfl
theorem oM_18 : tpM[18]? = some (.inr (0, 6, 0)) := rfl
theorem oM_19 : tpM[19]? = some (.inr (0, 6, 0)) := rfl
theorem oM_20 : tpM[20]? = some (.inr (0, 900, 0)) := rfl
theorem oM_21 : tpM[21]? = some (.inr (0, 180, 0)) := rfl
theorem oM_22 : tpM[22]? = some (.inr (0, 6, 0)) := rfl
theorem oM_23 : tpM[23]? = some (.inr (0, 6, 0)) := rfl
theorem oM_24 : tpM[24]? = some (.inr (0, 6, 0)) := rfl
theorem oM_25 : tpM[25]? = some (.inr (0, 48, 0)) := rfl
theorem oM_26 : tpM[26]? = some (.inr (0, 6, 0)) := rfl
theorem oM_27 : tpM[27]? = some (.inr (0, 6, 0)) := rfl
theorem oM_28 : tpM[28]? = some (.inr (0, 6, 0)) := rfl
def isSt (o : Nat) : Prop := tpC[o]? = some (.inl (5, [(0, 0), (1, o + 1), (1, o + 2), (1, o + 3), (1, o + 4)])) ∧ tpC[o + 1]? = some (.inr (0, 30, 0)) ∧ tpC[o + 2]? = some (.inr (0, 6, 0)) ∧ tpC[o + 3]? = some (.inr (0, 6, 0)) ∧ tpC[o + 4]? = some (.inr (0, 6, 0))
theorem isSt_33 : isSt 33 := ⟨rfl, rfl, rfl, rfl, rfl⟩
theorem isSt_38 : isSt 38 := ⟨rfl, rfl, rfl, rfl, rfl⟩
theorem isSt_43 : isSt 43 := ⟨rfl, rfl, rfl, rfl, rfl⟩
def isLk (o : Nat) : Prop := tpC[o]? = some (.inl (1, [(1, o + 4), (1, o + 8), (0, 0)])) ∧ tpC[o + 4]? = some (.inr (0, 160, 0)) ∧ tpC[o + 8]? = some (.inr (0, 160, 0))
theorem isLk_all : ∀ j, j < 4 → isLk (16 + j)
  | 0, _ => ⟨rfl, rfl, rfl⟩
  | 1, _ => ⟨rfl, rfl, rfl⟩
  | 2, _ => ⟨rfl, rfl, rfl⟩
  | 3, _ => ⟨rfl, rfl, rfl⟩
  | j + 4, h => absurd h (by omega)
theorem isBt_all : ∀ j, j < 2 → tpM[1 + j]? = some (.inr (1, alen tpM (1 + j), 0))
  | 0, _ => rfl
  | 1, _ => rfl
  | j + 2, h => absurd h (by omega)
theorem Cx.gg {p : Program} {s : State} {m : MethodId} {c : Code} {cc : ByteArray} {nL : Nat} {own : String} {s0 : State} {args0 : Array Value} {D : va_G} {ca : Nat → ClassId} {a : Nat → Nat} {A : Nat → Prop} (h : Cx p s m c cc nL own s0 args0 D ca a A) : GG s0 args0 D ca a A := h.2.2.2.2.2.1
