/-! THE CELLS as the constructors leave them, by their places -/
def rn_SH : List rn_Sh := [(15, 11, [5, 7, 23, 39, 55, 106, 110, 2, 0, 0, 0]), (13, 3, [6, 0, 0]), (2, 80, []), (11, 4, [8, 9, 13, 18]), (6, 9, [2, 0, 0, 0, 0, 0, 0, 0, 0]), (12, 7, [2, 10, 11, 12, 0, 0, 0]), (0, 4, []), (0, 4, []), (0, 48, []), (5, 5, [0, 14, 15, 16, 17]), (0, 6, []), (0, 6, []), (0, 6, []), (0, 6, []), (8, 6, [2, 0, 19, 20, 21, 22]), (0, 12, []), (0, 12, []), (0, 12, []), (0, 13, []), (11, 4, [24, 25, 29, 34]), (6, 9, [2, 0, 0, 0, 0, 0, 0, 0, 0]), (12, 7, [2, 26, 27, 28, 0, 0, 0]), (0, 4, []), (0, 4, []), (0, 48, []), (5, 5, [0, 30, 31, 32, 33]), (0, 6, []), (0, 6, []), (0, 6, []), (0, 6, []), (8, 6, [2, 0, 35, 36, 37, 38]), (0, 12, []), (0, 12, []), (0, 12, []), (0, 13, []), (11, 4, [40, 41, 45, 50]), (6, 9, [2, 0, 0, 0, 0, 0, 0, 0, 0]), (12, 7, [2, 42, 43, 44, 0, 0, 0]), (0, 4, []), (0, 4, []), (0, 48, []), (5, 5, [0, 46, 47, 48, 49]), (0, 6, []), (0, 6, []), (0, 6, []), (0, 6, []), (8, 6, [2, 0, 51, 52, 53, 54]), (0, 12, []), (0, 12, []), (0, 12, []), (0, 13, []), (9, 20, [56, 57, 61, 66, 67, 68, 69, 70, 71, 0, 0, 0, 1, 1, 1, 0, 0, 0, 72, 73]), (6, 9, [2, 0, 0, 0, 0, 0, 0, 0, 0]), (12, 7, [2, 58, 59, 60, 0, 0, 0]), (0, 4, []), (0, 4, []), (0, 48, []), (5, 5, [0, 62, 63, 64, 65]), (0, 6, []), (0, 6, []), (0, 6, []), (0, 6, []), (3, 4, [71, 79, 87, 95]), (0, 4, []), (0, 4, []), (0, 3, []), (0, 3, []), (0, 4, []), (0, 3, []), (0, 5, []), (14, 10, [0, 0, 0, 75, 76, 77, 78, 79, 80, 81]), (0, 24, []), (0, 24, []), (0, 24, []), (0, 24, []), (0, 24, []), (1, 24, []), (0, 24, []), (14, 10, [0, 0, 0, 83, 84, 85, 86, 87, 88, 89]), (0, 24, []), (0, 24, []), (0, 24, []), (0, 24, []), (0, 24, []), (1, 24, []), (0, 24, []), (14, 10, [0, 0, 0, 91, 92, 93, 94, 95, 96, 97]), (0, 24, []), (0, 24, []), (0, 24, []), (0, 24, []), (0, 24, []), (1, 24, []), (0, 24, []), (14, 10, [0, 0, 0, 99, 100, 101, 102, 103, 104, 105]), (0, 24, []), (0, 24, []), (0, 24, []), (0, 24, []), (0, 24, []), (1, 24, []), (0, 24, []), (7, 3, [107, 108, 109]), (0, 4, []), (0, 4, []), (0, 4, []), (4, 4, [108, 110, 112, 114]), (10, 4, [2, 0, 0, 112]), (0, 24, []), (10, 4, [2, 0, 0, 114]), (0, 24, []), (10, 4, [2, 0, 0, 116]), (0, 24, []), (10, 4, [2, 0, 0, 118]), (0, 24, []), (16, 51, [120, 121, 0, 0, 122, 123, 0, 0, 0, 0, 0, 2, 0, 2, 1, 0, 124, 125, 126, 127, 128, 0, 129, 130, 131, 132, 133, 134, 135, 136, 137, 138, 139, 140, 141, 142, 143, 144, 145, 146, 147, 148, 149, 150, 151, 152, 2, 153, 154, 155, 156]), (0, 101, []), (0, 80, []), (0, 64, []), (0, 4, []), (0, 16, []), (0, 3, []), (0, 4, []), (0, 4, []), (0, 13, []), (0, 3, []), (0, 3, []), (0, 48, []), (0, 4, []), (0, 4, []), (0, 16, []), (0, 96, []), (0, 4, []), (0, 4, []), (0, 20, []), (0, 5, []), (0, 16, []), (0, 16, []), (0, 13, []), (0, 5, []), (0, 4, []), (0, 12, []), (0, 12, []), (0, 4, []), (0, 13, []), (0, 13, []), (0, 4, []), (0, 12, []), (0, 4, []), (0, 101, []), (0, 4, []), (0, 4, []), (0, 96, [])]
theorem sp_0 : rn_SH[0]? = some (15, 11, [5, 7, 23, 39, 55, 106, 110, 2, 0, 0, 0]) := rfl
theorem sp_1 : rn_SH[1]? = some (13, 3, [6, 0, 0]) := rfl
theorem sp_2 : rn_SH[2]? = some (2, 80, []) := rfl
theorem sp_3 : rn_SH[3]? = some (11, 4, [8, 9, 13, 18]) := rfl
theorem sp_4 : rn_SH[4]? = some (6, 9, [2, 0, 0, 0, 0, 0, 0, 0, 0]) := rfl
theorem sp_5 : rn_SH[5]? = some (12, 7, [2, 10, 11, 12, 0, 0, 0]) := rfl
theorem sp_6 : rn_SH[6]? = some (0, 4, []) := rfl
theorem sp_7 : rn_SH[7]? = some (0, 4, []) := rfl
theorem sp_8 : rn_SH[8]? = some (0, 48, []) := rfl
theorem sp_9 : rn_SH[9]? = some (5, 5, [0, 14, 15, 16, 17]) := rfl
theorem sp_10 : rn_SH[10]? = some (0, 6, []) := rfl
theorem sp_11 : rn_SH[11]? = some (0, 6, []) := rfl
theorem sp_12 : rn_SH[12]? = some (0, 6, []) := rfl
theorem sp_13 : rn_SH[13]? = some (0, 6, []) := rfl
theorem sp_14 : rn_SH[14]? = some (8, 6, [2, 0, 19, 20, 21, 22]) := rfl
theorem sp_15 : rn_SH[15]? = some (0, 12, []) := rfl
theorem sp_16 : rn_SH[16]? = some (0, 12, []) := rfl
theorem sp_17 : rn_SH[17]? = some (0, 12, []) := rfl
theorem sp_18 : rn_SH[18]? = some (0, 13, []) := rfl
theorem sp_19 : rn_SH[19]? = some (11, 4, [24, 25, 29, 34]) := rfl
theorem sp_20 : rn_SH[20]? = some (6, 9, [2, 0, 0, 0, 0, 0, 0, 0, 0]) := rfl
theorem sp_21 : rn_SH[21]? = some (12, 7, [2, 26, 27, 28, 0, 0, 0]) := rfl
theorem sp_22 : rn_SH[22]? = some (0, 4, []) := rfl
theorem sp_23 : rn_SH[23]? = some (0, 4, []) := rfl
theorem sp_24 : rn_SH[24]? = some (0, 48, []) := rfl
theorem sp_25 : rn_SH[25]? = some (5, 5, [0, 30, 31, 32, 33]) := rfl
theorem sp_26 : rn_SH[26]? = some (0, 6, []) := rfl
theorem sp_27 : rn_SH[27]? = some (0, 6, []) := rfl
theorem sp_28 : rn_SH[28]? = some (0, 6, []) := rfl
theorem sp_29 : rn_SH[29]? = some (0, 6, []) := rfl
theorem sp_30 : rn_SH[30]? = some (8, 6, [2, 0, 35, 36, 37, 38]) := rfl
theorem sp_31 : rn_SH[31]? = some (0, 12, []) := rfl
theorem sp_32 : rn_SH[32]? = some (0, 12, []) := rfl
theorem sp_33 : rn_SH[33]? = some (0, 12, []) := rfl
theorem sp_34 : rn_SH[34]? = some (0, 13, []) := rfl
theorem sp_35 : rn_SH[35]? = some (11, 4, [40, 41, 45, 50]) := rfl
theorem sp_36 : rn_SH[36]? = some (6, 9, [2, 0, 0, 0, 0, 0, 0, 0, 0]) := rfl
theorem sp_37 : rn_SH[37]? = some (12, 7, [2, 42, 43, 44, 0, 0, 0]) := rfl
theorem sp_38 : rn_SH[38]? = some (0, 4, []) := rfl
theorem sp_39 : rn_SH[39]? = some (0, 4, []) := rfl
theorem sp_40 : rn_SH[40]? = some (0, 48, []) := rfl
theorem sp_41 : rn_SH[41]? = some (5, 5, [0, 46, 47, 48, 49]) := rfl
theorem sp_42 : rn_SH[42]? = some (0, 6, []) := rfl
theorem sp_43 : rn_SH[43]? = some (0, 6, []) := rfl
theorem sp_44 : rn_SH[44]? = some (0, 6, []) := rfl
theorem sp_45 : rn_SH[45]? = some (0, 6, []) := rfl
theorem sp_46 : rn_SH[46]? = some (8, 6, [2, 0, 51, 52, 53, 54]) := rfl
theorem sp_47 : rn_SH[47]? = some (0, 12, []) := rfl
theorem sp_48 : rn_SH[48]? = some (0, 12, []) := rfl
theorem sp_49 : rn_SH[49]? = some (0, 12, []) := rfl
theorem sp_50 : rn_SH[50]? = some (0, 13, []) := rfl
theorem sp_51 : rn_SH[51]? = some (9, 20, [56, 57, 61, 66, 67, 68, 69, 70, 71, 0, 0, 0, 1, 1, 1, 0, 0, 0, 72, 73]) := rfl
theorem sp_52 : rn_SH[52]? = some (6, 9, [2, 0, 0, 0, 0, 0, 0, 0, 0]) := rfl
theorem sp_53 : rn_SH[53]? = some (12, 7, [2, 58, 59, 60, 0, 0, 0]) := rfl
theorem sp_54 : rn_SH[54]? = some (0, 4, []) := rfl
theorem sp_55 : rn_SH[55]? = some (0, 4, []) := rfl
theorem sp_56 : rn_SH[56]? = some (0, 48, []) := rfl
theorem sp_57 : rn_SH[57]? = some (5, 5, [0, 62, 63, 64, 65]) := rfl
theorem sp_58 : rn_SH[58]? = some (0, 6, []) := rfl
theorem sp_59 : rn_SH[59]? = some (0, 6, []) := rfl
theorem sp_60 : rn_SH[60]? = some (0, 6, []) := rfl
theorem sp_61 : rn_SH[61]? = some (0, 6, []) := rfl
theorem sp_62 : rn_SH[62]? = some (3, 4, [71, 79, 87, 95]) := rfl
theorem sp_63 : rn_SH[63]? = some (0, 4, []) := rfl
theorem sp_64 : rn_SH[64]? = some (0, 4, []) := rfl
theorem sp_65 : rn_SH[65]? = some (0, 3, []) := rfl
theorem sp_66 : rn_SH[66]? = some (0, 3, []) := rfl
theorem sp_67 : rn_SH[67]? = some (0, 4, []) := rfl
theorem sp_68 : rn_SH[68]? = some (0, 3, []) := rfl
theorem sp_69 : rn_SH[69]? = some (0, 5, []) := rfl
theorem sp_70 : rn_SH[70]? = some (14, 10, [0, 0, 0, 75, 76, 77, 78, 79, 80, 81]) := rfl
theorem sp_71 : rn_SH[71]? = some (0, 24, []) := rfl
theorem sp_72 : rn_SH[72]? = some (0, 24, []) := rfl
theorem sp_73 : rn_SH[73]? = some (0, 24, []) := rfl
theorem sp_74 : rn_SH[74]? = some (0, 24, []) := rfl
theorem sp_75 : rn_SH[75]? = some (0, 24, []) := rfl
theorem sp_76 : rn_SH[76]? = some (1, 24, []) := rfl
theorem sp_77 : rn_SH[77]? = some (0, 24, []) := rfl
theorem sp_78 : rn_SH[78]? = some (14, 10, [0, 0, 0, 83, 84, 85, 86, 87, 88, 89]) := rfl
theorem sp_79 : rn_SH[79]? = some (0, 24, []) := rfl
theorem sp_80 : rn_SH[80]? = some (0, 24, []) := rfl
theorem sp_81 : rn_SH[81]? = some (0, 24, []) := rfl
theorem sp_82 : rn_SH[82]? = some (0, 24, []) := rfl
theorem sp_83 : rn_SH[83]? = some (0, 24, []) := rfl
theorem sp_84 : rn_SH[84]? = some (1, 24, []) := rfl
theorem sp_85 : rn_SH[85]? = some (0, 24, []) := rfl
theorem sp_86 : rn_SH[86]? = some (14, 10, [0, 0, 0, 91, 92, 93, 94, 95, 96, 97]) := rfl
theorem sp_87 : rn_SH[87]? = some (0, 24, []) := rfl
theorem sp_88 : rn_SH[88]? = some (0, 24, []) := rfl
theorem sp_89 : rn_SH[89]? = some (0, 24, []) := rfl
theorem sp_90 : rn_SH[90]? = some (0, 24, []) := rfl
theorem sp_91 : rn_SH[91]? = some (0, 24, []) := rfl
theorem sp_92 : rn_SH[92]? = some (1, 24, []) := rfl
theorem sp_93 : rn_SH[93]? = some (0, 24, []) := rfl
theorem sp_94 : rn_SH[94]? = some (14, 10, [0, 0, 0, 99, 100, 101, 102, 103, 104, 105]) := rfl
theorem sp_95 : rn_SH[95]? = some (0, 24, []) := rfl
theorem sp_96 : rn_SH[96]? = some (0, 24, []) := rfl
theorem sp_97 : rn_SH[97]? = some (0, 24, []) := rfl
theorem sp_98 : rn_SH[98]? = some (0, 24, []) := rfl
theorem sp_99 : rn_SH[99]? = some (0, 24, []) := rfl
theorem sp_100 : rn_SH[100]? = some (1, 24, []) := rfl
theorem sp_101 : rn_SH[101]? = some (0, 24, []) := rfl
theorem sp_102 : rn_SH[102]? = some (7, 3, [107, 108, 109]) := rfl
theorem sp_103 : rn_SH[103]? = some (0, 4, []) := rfl
theorem sp_104 : rn_SH[104]? = some (0, 4, []) := rfl
theorem sp_105 : rn_SH[105]? = some (0, 4, []) := rfl
theorem sp_106 : rn_SH[106]? = some (4, 4, [108, 110, 112, 114]) := rfl
theorem sp_107 : rn_SH[107]? = some (10, 4, [2, 0, 0, 112]) := rfl
theorem sp_108 : rn_SH[108]? = some (0, 24, []) := rfl
theorem sp_109 : rn_SH[109]? = some (10, 4, [2, 0, 0, 114]) := rfl
theorem sp_110 : rn_SH[110]? = some (0, 24, []) := rfl
theorem sp_111 : rn_SH[111]? = some (10, 4, [2, 0, 0, 116]) := rfl
theorem sp_112 : rn_SH[112]? = some (0, 24, []) := rfl
theorem sp_113 : rn_SH[113]? = some (10, 4, [2, 0, 0, 118]) := rfl
theorem sp_114 : rn_SH[114]? = some (0, 24, []) := rfl
theorem sp_115 : rn_SH[115]? = some (16, 51, [120, 121, 0, 0, 122, 123, 0, 0, 0, 0, 0, 2, 0, 2, 1, 0, 124, 125, 126, 127, 128, 0, 129, 130, 131, 132, 133, 134, 135, 136, 137, 138, 139, 140, 141, 142, 143, 144, 145, 146, 147, 148, 149, 150, 151, 152, 2, 153, 154, 155, 156]) := rfl
theorem sp_116 : rn_SH[116]? = some (0, 101, []) := rfl
theorem sp_117 : rn_SH[117]? = some (0, 80, []) := rfl
theorem sp_118 : rn_SH[118]? = some (0, 64, []) := rfl
theorem sp_119 : rn_SH[119]? = some (0, 4, []) := rfl
theorem sp_120 : rn_SH[120]? = some (0, 16, []) := rfl
theorem sp_121 : rn_SH[121]? = some (0, 3, []) := rfl
theorem sp_122 : rn_SH[122]? = some (0, 4, []) := rfl
theorem sp_123 : rn_SH[123]? = some (0, 4, []) := rfl
theorem sp_124 : rn_SH[124]? = some (0, 13, []) := rfl
theorem sp_125 : rn_SH[125]? = some (0, 3, []) := rfl
theorem sp_126 : rn_SH[126]? = some (0, 3, []) := rfl
theorem sp_127 : rn_SH[127]? = some (0, 48, []) := rfl
theorem sp_128 : rn_SH[128]? = some (0, 4, []) := rfl
theorem sp_129 : rn_SH[129]? = some (0, 4, []) := rfl
theorem sp_130 : rn_SH[130]? = some (0, 16, []) := rfl
theorem sp_131 : rn_SH[131]? = some (0, 96, []) := rfl
theorem sp_132 : rn_SH[132]? = some (0, 4, []) := rfl
theorem sp_133 : rn_SH[133]? = some (0, 4, []) := rfl
theorem sp_134 : rn_SH[134]? = some (0, 20, []) := rfl
theorem sp_135 : rn_SH[135]? = some (0, 5, []) := rfl
theorem sp_136 : rn_SH[136]? = some (0, 16, []) := rfl
theorem sp_137 : rn_SH[137]? = some (0, 16, []) := rfl
theorem sp_138 : rn_SH[138]? = some (0, 13, []) := rfl
theorem sp_139 : rn_SH[139]? = some (0, 5, []) := rfl
theorem sp_140 : rn_SH[140]? = some (0, 4, []) := rfl
theorem sp_141 : rn_SH[141]? = some (0, 12, []) := rfl
theorem sp_142 : rn_SH[142]? = some (0, 12, []) := rfl
theorem sp_143 : rn_SH[143]? = some (0, 4, []) := rfl
theorem sp_144 : rn_SH[144]? = some (0, 13, []) := rfl
theorem sp_145 : rn_SH[145]? = some (0, 13, []) := rfl
theorem sp_146 : rn_SH[146]? = some (0, 4, []) := rfl
theorem sp_147 : rn_SH[147]? = some (0, 12, []) := rfl
theorem sp_148 : rn_SH[148]? = some (0, 4, []) := rfl
theorem sp_149 : rn_SH[149]? = some (0, 101, []) := rfl
theorem sp_150 : rn_SH[150]? = some (0, 4, []) := rfl
theorem sp_151 : rn_SH[151]? = some (0, 4, []) := rfl
theorem sp_152 : rn_SH[152]? = some (0, 96, []) := rfl
theorem rn_shlt {p : Nat} {q : rn_Sh} (h : rn_SH[p]? = some q) : p < 9000 := by
  have := (List.getElem?_eq_some_iff.mp h).1
  have e : rn_SH.length = 153 := rfl
  omega
def rn_al (q : Nat) : Nat := match rn_SH[q]? with
  | some (_, n, _) => n
  | none => 0
abbrev sA_arr (q : Nat) : Prop := rn_SH[q]? = some (0, rn_al q, [])
abbrev sA_Game (p : Nat) : Prop := rn_SH[p]? = some (6, 9, [2, 0, 0, 0, 0, 0, 0, 0, 0])
abbrev sA_Table (p : Nat) : Prop := rn_SH[p]? = some (12, 7, [2, p + 5, p + 6, p + 7, 0, 0, 0]) ∧ rn_SH[p + 1]? = some (0, 4, []) ∧ rn_SH[p + 2]? = some (0, 4, []) ∧ rn_SH[p + 3]? = some (0, 48, [])
abbrev sA_Clues (p : Nat) : Prop := rn_SH[p]? = some (5, 5, [0, p + 5, p + 6, p + 7, p + 8]) ∧ rn_SH[p + 1]? = some (0, 6, []) ∧ rn_SH[p + 2]? = some (0, 6, []) ∧ rn_SH[p + 3]? = some (0, 6, []) ∧ rn_SH[p + 4]? = some (0, 6, [])
abbrev sA_Row (p : Nat) : Prop := rn_SH[p]? = some (8, 6, [2, 0, p + 5, p + 6, p + 7, p + 8]) ∧ rn_SH[p + 1]? = some (0, 12, []) ∧ rn_SH[p + 2]? = some (0, 12, []) ∧ rn_SH[p + 3]? = some (0, 12, []) ∧ rn_SH[p + 4]? = some (0, 13, [])
abbrev sA_Ways (p : Nat) : Prop := rn_SH[p]? = some (14, 10, [0, 0, 0, p + 5, p + 6, p + 7, p + 8, p + 9, p + 10, p + 11]) ∧ rn_SH[p + 1]? = some (0, 24, []) ∧ rn_SH[p + 2]? = some (0, 24, []) ∧ rn_SH[p + 3]? = some (0, 24, []) ∧ rn_SH[p + 4]? = some (0, 24, []) ∧ rn_SH[p + 5]? = some (0, 24, []) ∧ rn_SH[p + 6]? = some (1, 24, []) ∧ rn_SH[p + 7]? = some (0, 24, [])
abbrev sA_Sheet (p : Nat) : Prop := rn_SH[p]? = some (10, 4, [2, 0, 0, p + 5]) ∧ rn_SH[p + 1]? = some (0, 24, [])
abbrev sA_State (p : Nat) : Prop := rn_SH[p]? = some (11, 4, [p + 5, p + 6, p + 10, p + 15]) ∧ sA_Game (p + 1) ∧ sA_Table (p + 2) ∧ sA_Clues (p + 6) ∧ sA_Row (p + 11)
theorem sa_4 : sA_Game 4 := rfl
theorem sa_5 : sA_Table 5 := ⟨rfl, rfl, rfl, rfl⟩
theorem sr_6 : sA_arr 6 := by decide +kernel
theorem sr_7 : sA_arr 7 := by decide +kernel
theorem sr_8 : sA_arr 8 := by decide +kernel
theorem sa_9 : sA_Clues 9 := ⟨rfl, rfl, rfl, rfl, rfl⟩
theorem sr_10 : sA_arr 10 := by decide +kernel
theorem sr_11 : sA_arr 11 := by decide +kernel
theorem sr_12 : sA_arr 12 := by decide +kernel
theorem sr_13 : sA_arr 13 := by decide +kernel
theorem sa_14 : sA_Row 14 := ⟨rfl, rfl, rfl, rfl, rfl⟩
theorem sr_15 : sA_arr 15 := by decide +kernel
theorem sr_16 : sA_arr 16 := by decide +kernel
theorem sr_17 : sA_arr 17 := by decide +kernel
theorem sr_18 : sA_arr 18 := by decide +kernel
theorem sa_20 : sA_Game 20 := rfl
theorem sa_21 : sA_Table 21 := ⟨rfl, rfl, rfl, rfl⟩
theorem sr_22 : sA_arr 22 := by decide +kernel
theorem sr_23 : sA_arr 23 := by decide +kernel
theorem sr_24 : sA_arr 24 := by decide +kernel
theorem sa_25 : sA_Clues 25 := ⟨rfl, rfl, rfl, rfl, rfl⟩
theorem sr_26 : sA_arr 26 := by decide +kernel
theorem sr_27 : sA_arr 27 := by decide +kernel
theorem sr_28 : sA_arr 28 := by decide +kernel
theorem sr_29 : sA_arr 29 := by decide +kernel
theorem sa_30 : sA_Row 30 := ⟨rfl, rfl, rfl, rfl, rfl⟩
theorem sr_31 : sA_arr 31 := by decide +kernel
theorem sr_32 : sA_arr 32 := by decide +kernel
theorem sr_33 : sA_arr 33 := by decide +kernel
theorem sr_34 : sA_arr 34 := by decide +kernel
theorem sa_36 : sA_Game 36 := rfl
theorem sa_37 : sA_Table 37 := ⟨rfl, rfl, rfl, rfl⟩
theorem sr_38 : sA_arr 38 := by decide +kernel
theorem sr_39 : sA_arr 39 := by decide +kernel
theorem sr_40 : sA_arr 40 := by decide +kernel
theorem sa_41 : sA_Clues 41 := ⟨rfl, rfl, rfl, rfl, rfl⟩
theorem sr_42 : sA_arr 42 := by decide +kernel
theorem sr_43 : sA_arr 43 := by decide +kernel
theorem sr_44 : sA_arr 44 := by decide +kernel
theorem sr_45 : sA_arr 45 := by decide +kernel
theorem sa_46 : sA_Row 46 := ⟨rfl, rfl, rfl, rfl, rfl⟩
theorem sr_47 : sA_arr 47 := by decide +kernel
theorem sr_48 : sA_arr 48 := by decide +kernel
theorem sr_49 : sA_arr 49 := by decide +kernel
theorem sr_50 : sA_arr 50 := by decide +kernel
theorem sa_52 : sA_Game 52 := rfl
theorem sa_53 : sA_Table 53 := ⟨rfl, rfl, rfl, rfl⟩
theorem sr_54 : sA_arr 54 := by decide +kernel
theorem sr_55 : sA_arr 55 := by decide +kernel
theorem sr_56 : sA_arr 56 := by decide +kernel
theorem sa_57 : sA_Clues 57 := ⟨rfl, rfl, rfl, rfl, rfl⟩
theorem sr_58 : sA_arr 58 := by decide +kernel
theorem sr_59 : sA_arr 59 := by decide +kernel
theorem sr_60 : sA_arr 60 := by decide +kernel
theorem sr_61 : sA_arr 61 := by decide +kernel
theorem sr_63 : sA_arr 63 := by decide +kernel
theorem sr_64 : sA_arr 64 := by decide +kernel
theorem sr_65 : sA_arr 65 := by decide +kernel
theorem sr_66 : sA_arr 66 := by decide +kernel
theorem sr_67 : sA_arr 67 := by decide +kernel
theorem sr_68 : sA_arr 68 := by decide +kernel
theorem sr_69 : sA_arr 69 := by decide +kernel
theorem sa_70 : sA_Ways 70 := ⟨rfl, rfl, rfl, rfl, rfl, rfl, rfl, rfl⟩
theorem sr_71 : sA_arr 71 := by decide +kernel
theorem sr_72 : sA_arr 72 := by decide +kernel
theorem sr_73 : sA_arr 73 := by decide +kernel
theorem sr_74 : sA_arr 74 := by decide +kernel
theorem sr_75 : sA_arr 75 := by decide +kernel
theorem sr_77 : sA_arr 77 := by decide +kernel
theorem sa_78 : sA_Ways 78 := ⟨rfl, rfl, rfl, rfl, rfl, rfl, rfl, rfl⟩
theorem sr_79 : sA_arr 79 := by decide +kernel
theorem sr_80 : sA_arr 80 := by decide +kernel
theorem sr_81 : sA_arr 81 := by decide +kernel
theorem sr_82 : sA_arr 82 := by decide +kernel
theorem sr_83 : sA_arr 83 := by decide +kernel
theorem sr_85 : sA_arr 85 := by decide +kernel
theorem sa_86 : sA_Ways 86 := ⟨rfl, rfl, rfl, rfl, rfl, rfl, rfl, rfl⟩
theorem sr_87 : sA_arr 87 := by decide +kernel
theorem sr_88 : sA_arr 88 := by decide +kernel
theorem sr_89 : sA_arr 89 := by decide +kernel
theorem sr_90 : sA_arr 90 := by decide +kernel
theorem sr_91 : sA_arr 91 := by decide +kernel
theorem sr_93 : sA_arr 93 := by decide +kernel
theorem sa_94 : sA_Ways 94 := ⟨rfl, rfl, rfl, rfl, rfl, rfl, rfl, rfl⟩
theorem sr_95 : sA_arr 95 := by decide +kernel
theorem sr_96 : sA_arr 96 := by decide +kernel
theorem sr_97 : sA_arr 97 := by decide +kernel
theorem sr_98 : sA_arr 98 := by decide +kernel
theorem sr_99 : sA_arr 99 := by decide +kernel
theorem sr_101 : sA_arr 101 := by decide +kernel
theorem sr_103 : sA_arr 103 := by decide +kernel
theorem sr_104 : sA_arr 104 := by decide +kernel
theorem sr_105 : sA_arr 105 := by decide +kernel
theorem sa_107 : sA_Sheet 107 := ⟨rfl, rfl⟩
theorem sr_108 : sA_arr 108 := by decide +kernel
theorem sa_109 : sA_Sheet 109 := ⟨rfl, rfl⟩
theorem sr_110 : sA_arr 110 := by decide +kernel
theorem sa_111 : sA_Sheet 111 := ⟨rfl, rfl⟩
theorem sr_112 : sA_arr 112 := by decide +kernel
theorem sa_113 : sA_Sheet 113 := ⟨rfl, rfl⟩
theorem sr_114 : sA_arr 114 := by decide +kernel
theorem sr_116 : sA_arr 116 := by decide +kernel
theorem sr_117 : sA_arr 117 := by decide +kernel
theorem sr_118 : sA_arr 118 := by decide +kernel
theorem sr_119 : sA_arr 119 := by decide +kernel
theorem sr_120 : sA_arr 120 := by decide +kernel
theorem sr_121 : sA_arr 121 := by decide +kernel
theorem sr_122 : sA_arr 122 := by decide +kernel
theorem sr_123 : sA_arr 123 := by decide +kernel
theorem sr_124 : sA_arr 124 := by decide +kernel
theorem sr_125 : sA_arr 125 := by decide +kernel
theorem sr_126 : sA_arr 126 := by decide +kernel
theorem sr_127 : sA_arr 127 := by decide +kernel
theorem sr_128 : sA_arr 128 := by decide +kernel
theorem sr_129 : sA_arr 129 := by decide +kernel
theorem sr_130 : sA_arr 130 := by decide +kernel
theorem sr_131 : sA_arr 131 := by decide +kernel
theorem sr_132 : sA_arr 132 := by decide +kernel
theorem sr_133 : sA_arr 133 := by decide +kernel
theorem sr_134 : sA_arr 134 := by decide +kernel
theorem sr_135 : sA_arr 135 := by decide +kernel
theorem sr_136 : sA_arr 136 := by decide +kernel
theorem sr_137 : sA_arr 137 := by decide +kernel
theorem sr_138 : sA_arr 138 := by decide +kernel
theorem sr_139 : sA_arr 139 := by decide +kernel
theorem sr_140 : sA_arr 140 := by decide +kernel
theorem sr_141 : sA_arr 141 := by decide +kernel
theorem sr_142 : sA_arr 142 := by decide +kernel
theorem sr_143 : sA_arr 143 := by decide +kernel
theorem sr_144 : sA_arr 144 := by decide +kernel
theorem sr_145 : sA_arr 145 := by decide +kernel
theorem sr_146 : sA_arr 146 := by decide +kernel
theorem sr_147 : sA_arr 147 := by decide +kernel
theorem sr_148 : sA_arr 148 := by decide +kernel
theorem sr_149 : sA_arr 149 := by decide +kernel
theorem sr_150 : sA_arr 150 := by decide +kernel
theorem sr_151 : sA_arr 151 := by decide +kernel
theorem sr_152 : sA_arr 152 := by decide +kernel
theorem sa_3 : sA_State 3 := ⟨rfl, sa_4, sa_5, sa_9, sa_14⟩
theorem sa_19 : sA_State 19 := ⟨rfl, sa_20, sa_21, sa_25, sa_30⟩
theorem sa_35 : sA_State 35 := ⟨rfl, sa_36, sa_37, sa_41, sa_46⟩
theorem rn_in_lt {i : Int32} {n : Nat} (h : rn_in i n = true) : i.toNatClampNeg < n := by
  have h := rn_in_ok h
  unfold vp_in at h
  exact Nat.not_le.mp fun z => h (Or.inr z)
theorem rn_ways_asm {i : Int32} (h : rn_in i 4 = true) : sA_Ways (70 + 8 * i.toNatClampNeg) := by
  have h := rn_in_lt h
  generalize i.toNatClampNeg = k at h ⊢
  match k, h with
  | 0, _ => exact sa_70
  | 1, _ => exact sa_78
  | 2, _ => exact sa_86
  | 3, _ => exact sa_94
theorem rn_ways_at {i : Int32} (h : rn_in i 4 = true) : [71, 79, 87, 95][i.toNatClampNeg]? = some (70 + 8 * i.toNatClampNeg + 1) := by
  have h := rn_in_lt h
  generalize i.toNatClampNeg = k at h ⊢
  match k, h with
  | 0, _ => rfl
  | 1, _ => rfl
  | 2, _ => rfl
  | 3, _ => rfl
theorem rn_sheets_asm {i : Int32} (h : rn_in i 4 = true) : sA_Sheet (107 + 2 * i.toNatClampNeg) := by
  have h := rn_in_lt h
  generalize i.toNatClampNeg = k at h ⊢
  match k, h with
  | 0, _ => exact sa_107
  | 1, _ => exact sa_109
  | 2, _ => exact sa_111
  | 3, _ => exact sa_113
theorem rn_sheets_at {i : Int32} (h : rn_in i 4 = true) : [108, 110, 112, 114][i.toNatClampNeg]? = some (107 + 2 * i.toNatClampNeg + 1) := by
  have h := rn_in_lt h
  generalize i.toNatClampNeg = k at h ⊢
  match k, h with
  | 0, _ => rfl
  | 1, _ => rfl
  | 2, _ => rfl
  | 3, _ => rfl
def rn_rem (x z : Int32) : Int32 := x - x / z * z
theorem rq_chk {α : Type} {c : Prop} [Decidable c] {A : Option α} {o : α} (h : (if c then A else none) = some o) : c ∧ A = some o := by
  split at h
  · exact ⟨by assumption, h⟩
  · cases h
theorem rq_ret {α β : Type} {a c : α} {b e : β} (h : some (a, b) = some (c, e)) : a = c ∧ b = e := by
  cases h
  exact ⟨rfl, rfl⟩
theorem rq_bv {α β : Type} {e : α} {f : α → Option β} {o : β} (h : (some e).bind f = some o) : ∃ v, e = v ∧ f v = some o := ⟨e, rfl, h⟩
theorem rq_bind {α β : Type} {x : Option α} {f : α → Option β} {o : β} (h : x.bind f = some o) : ∃ v, x = some v ∧ f v = some o := Option.bind_eq_some_iff.mp h
theorem rx_aly {xs : List Int32} {d y pc pc2 len a b c p : Nat} {L : rn_L} {T : List Value} {σ : rn_H} {r : Option Value} {τ : rn_H} (hop : rn_op y pc = some (.arraylength, len, a, b, c)) (hp : ¬ p < 10000) (hp2 : p < 10003) (hpc : pc + 1 = pc2) (k : rn_R xs d y pc2 L (.int (Int32.ofNat (rn_ext xs p).length) :: T) σ r τ) : rn_R xs d y pc L (.ref p :: T) σ r τ := by
  refine rx_r hop rfl (S2 := .int (Int32.ofNat (rn_ext xs p).length) :: T) ?_ hpc k
  show (if p < 10000 then _ else if p < 10003 then some (Value.int (Int32.ofNat (rn_ext xs p).length) :: T) else none) = _
  rw [if_neg hp, if_pos hp2]
theorem rn_s1_d (L : rn_L) (j : Nat) (v : Value) (hj : j < L.length) : ∃ o, rn_s1 (j + 1) v L = (L.set j o).set (j + 1) (some v) := by
  have hw : L[j]? = some L[j] := List.getElem?_eq_getElem hj
  unfold rn_s1 rn_kill
  dsimp only
  rw [hw]
  split
  · exact ⟨none, rfl⟩
  · exact ⟨none, rfl⟩
  · exact ⟨L[j], by rw [List.set_getElem_self]⟩
theorem rn_s2_d (L : rn_L) (j : Nat) (v : Value) (hj : j < L.length) : ∃ o, rn_s2 (j + 1) v L = ((L.set j o).set (j + 1) (some v)).set (j + 2) none := by
  obtain ⟨o, h⟩ := rn_s1_d L j v hj
  exact ⟨o, congrArg (fun Z => List.set Z (j + 2) none) h⟩
def rn_isI (i : Instr) (k : Nat) : Bool := match i with
  | .istore q => decide (q = k)
  | .istore_n q => decide ((q : Nat) = k)
  | _ => false
def rn_isJ (i : Instr) (k : Nat) : Bool := match i with
  | .lstore q => decide (q = k)
  | .lstore_n q => decide ((q : Nat) = k)
  | _ => false
def rn_isA (i : Instr) (k : Nat) : Bool := match i with
  | .astore q => decide (q = k)
  | .astore_n q => decide ((q : Nat) = k)
  | _ => false
section RZ
variable {xs : List Int32} {d y pc pc2 len a b c j : Nat} {L : rn_L} {T : List Value} {σ : rn_H} {r : Option Value} {τ : rn_H} {i : Instr}
theorem rx_sd {x v : Int32} (hop : rn_op y pc = some (i, len, a, b, c)) (hi : rn_isI i (j + 1) = true) (hv : x = v) (hl : j + 2 ≤ L.length) (hpc : pc + rn_len i len = pc2) (kk : ∀ o : Option Value, rn_R xs d y pc2 ((L.set j o).set (j + 1) (some (.int v))) T σ r τ) : rn_R xs d y pc L (.int x :: T) σ r τ := by
  subst hv
  obtain ⟨o, ho⟩ := rn_s1_d L j (.int x) (by omega)
  refine rx_p hop (L2 := rn_s1 (j + 1) (.int x) L) (S2 := T) ?_ hpc (by rw [ho]; exact kk o)
  unfold rn_isI at hi
  split at hi
  · have e := of_decide_eq_true hi
    subst e
    show (if j + 1 < L.length then _ else none) = _
    rw [if_pos (by omega)]
  · have e := of_decide_eq_true hi
    rename_i q
    show (if (q : Nat) < L.length then some (rn_s1 q (.int x) L, T) else none) = _
    rw [e, if_pos (by omega)]
  · cases hi
theorem rx_sld {x v : Int64} (hop : rn_op y pc = some (i, len, a, b, c)) (hi : rn_isJ i (j + 1) = true) (hv : x = v) (hl : j + 3 ≤ L.length) (hpc : pc + rn_len i len = pc2) (kk : ∀ o : Option Value, rn_R xs d y pc2 (((L.set j o).set (j + 1) (some (.long v))).set (j + 2) none) T σ r τ) : rn_R xs d y pc L (.long x :: T) σ r τ := by
  subst hv
  obtain ⟨o, ho⟩ := rn_s2_d L j (.long x) (by omega)
  refine rx_p hop (L2 := rn_s2 (j + 1) (.long x) L) (S2 := T) ?_ hpc (by rw [ho]; exact kk o)
  unfold rn_isJ at hi
  split at hi
  · have e := of_decide_eq_true hi
    subst e
    show (if j + 1 + 1 < L.length then _ else none) = _
    rw [if_pos (by omega)]
  · have e := of_decide_eq_true hi
    rename_i q
    show (if (q : Nat) + 1 < L.length then some (rn_s2 q (.long x) L, T) else none) = _
    rw [e, if_pos (by omega)]
  · cases hi
theorem rx_ad {x : Nat} (hop : rn_op y pc = some (i, len, a, b, c)) (hi : rn_isA i (j + 1) = true) (hl : j + 2 ≤ L.length) (hpc : pc + rn_len i len = pc2) (kk : ∀ o : Option Value, rn_R xs d y pc2 ((L.set j o).set (j + 1) (some (.ref x))) T σ r τ) : rn_R xs d y pc L (.ref x :: T) σ r τ := by
  obtain ⟨o, ho⟩ := rn_s1_d L j (.ref x) (by omega)
  refine rx_p hop (L2 := rn_s1 (j + 1) (.ref x) L) (S2 := T) ?_ hpc (by rw [ho]; exact kk o)
  unfold rn_isA at hi
  split at hi
  · have e := of_decide_eq_true hi
    subst e
    show (if j + 1 < L.length then _ else none) = _
    rw [if_pos (by omega)]
  · have e := of_decide_eq_true hi
    rename_i q
    show (if (q : Nat) < L.length then some (rn_s1 q (.ref x) L, T) else none) = _
    rw [e, if_pos (by omega)]
  · cases hi
theorem rx_incd {S : List Value} {z : Int} {x w v : Int32} (hop : rn_op y pc = some (.iinc (j + 1) z, len, a, b, c)) (hL : L[j + 1]? = some (some (.int x))) (hw : Int32.ofInt z = w) (hv : x + w = v) (hpc : pc + 3 = pc2) (kk : ∀ o : Option Value, rn_R xs d y pc2 ((L.set j o).set (j + 1) (some (.int v))) S σ r τ) : rn_R xs d y pc L S σ r τ := by
  have hlt := (List.getElem?_eq_some_iff.mp hL).1
  obtain ⟨o, ho⟩ := rn_s1_d L j (.int v) (by omega)
  exact rx_inc hop hL hw hv rfl hpc (by rw [ho]; exact kk o)
end RZ
theorem ms_0 : rn_ms[0]? = some rn_m0 := rfl
theorem ms_1 : rn_ms[1]? = some rn_m1 := rfl
theorem ms_2 : rn_ms[2]? = some rn_m2 := rfl
theorem ms_3 : rn_ms[3]? = some rn_m3 := rfl
theorem ms_4 : rn_ms[4]? = some rn_m4 := rfl
theorem ms_5 : rn_ms[5]? = some rn_m5 := rfl
theorem ms_6 : rn_ms[6]? = some rn_m6 := rfl
theorem ms_7 : rn_ms[7]? = some rn_m7 := rfl
theorem ms_8 : rn_ms[8]? = some rn_m8 := rfl
theorem ms_9 : rn_ms[9]? = some rn_m9 := rfl
theorem ms_10 : rn_ms[10]? = some rn_m10 := rfl
theorem ms_11 : rn_ms[11]? = some rn_m11 := rfl
theorem ms_12 : rn_ms[12]? = some rn_m12 := rfl
theorem ms_13 : rn_ms[13]? = some rn_m13 := rfl
theorem ms_14 : rn_ms[14]? = some rn_m14 := rfl
theorem ms_15 : rn_ms[15]? = some rn_m15 := rfl
theorem ms_16 : rn_ms[16]? = some rn_m16 := rfl
theorem ms_17 : rn_ms[17]? = some rn_m17 := rfl
theorem ms_18 : rn_ms[18]? = some rn_m18 := rfl
theorem ms_19 : rn_ms[19]? = some rn_m19 := rfl
theorem ms_20 : rn_ms[20]? = some rn_m20 := rfl
theorem ms_21 : rn_ms[21]? = some rn_m21 := rfl
theorem ms_22 : rn_ms[22]? = some rn_m22 := rfl
theorem ms_23 : rn_ms[23]? = some rn_m23 := rfl
theorem ms_24 : rn_ms[24]? = some rn_m24 := rfl
theorem ms_25 : rn_ms[25]? = some rn_m25 := rfl
theorem ms_26 : rn_ms[26]? = some rn_m26 := rfl
theorem ms_27 : rn_ms[27]? = some rn_m27 := rfl
theorem ms_28 : rn_ms[28]? = some rn_m28 := rfl
theorem ms_29 : rn_ms[29]? = some rn_m29 := rfl
theorem ms_30 : rn_ms[30]? = some rn_m30 := rfl
theorem ms_31 : rn_ms[31]? = some rn_m31 := rfl
theorem ms_32 : rn_ms[32]? = some rn_m32 := rfl
theorem ms_33 : rn_ms[33]? = some rn_m33 := rfl
theorem ms_34 : rn_ms[34]? = some rn_m34 := rfl
theorem ms_35 : rn_ms[35]? = some rn_m35 := rfl
theorem ms_36 : rn_ms[36]? = some rn_m36 := rfl
theorem ms_37 : rn_ms[37]? = some rn_m37 := rfl
theorem ms_38 : rn_ms[38]? = some rn_m38 := rfl
theorem ms_39 : rn_ms[39]? = some rn_m39 := rfl
theorem ms_40 : rn_ms[40]? = some rn_m40 := rfl
theorem ms_41 : rn_ms[41]? = some rn_m41 := rfl
theorem ms_42 : rn_ms[42]? = some rn_m42 := rfl
theorem ms_43 : rn_ms[43]? = some rn_m43 := rfl
theorem ms_44 : rn_ms[44]? = some rn_m44 := rfl
theorem ms_45 : rn_ms[45]? = some rn_m45 := rfl
theorem ms_46 : rn_ms[46]? = some rn_m46 := rfl
theorem ms_47 : rn_ms[47]? = some rn_m47 := rfl
theorem ms_48 : rn_ms[48]? = some rn_m48 := rfl
theorem ms_49 : rn_ms[49]? = some rn_m49 := rfl
theorem ms_50 : rn_ms[50]? = some rn_m50 := rfl
theorem ms_51 : rn_ms[51]? = some rn_m51 := rfl
theorem ms_52 : rn_ms[52]? = some rn_m52 := rfl
theorem ms_53 : rn_ms[53]? = some rn_m53 := rfl
theorem ms_54 : rn_ms[54]? = some rn_m54 := rfl
theorem ms_55 : rn_ms[55]? = some rn_m55 := rfl
theorem ms_56 : rn_ms[56]? = some rn_m56 := rfl
theorem ms_57 : rn_ms[57]? = some rn_m57 := rfl
theorem ms_58 : rn_ms[58]? = some rn_m58 := rfl
theorem ms_59 : rn_ms[59]? = some rn_m59 := rfl
theorem ms_60 : rn_ms[60]? = some rn_m60 := rfl
theorem ms_61 : rn_ms[61]? = some rn_m61 := rfl
theorem ms_62 : rn_ms[62]? = some rn_m62 := rfl
theorem ms_63 : rn_ms[63]? = some rn_m63 := rfl
theorem ms_64 : rn_ms[64]? = some rn_m64 := rfl
theorem ms_65 : rn_ms[65]? = some rn_m65 := rfl
theorem ms_66 : rn_ms[66]? = some rn_m66 := rfl
theorem ms_67 : rn_ms[67]? = some rn_m67 := rfl
theorem ms_68 : rn_ms[68]? = some rn_m68 := rfl
theorem ms_69 : rn_ms[69]? = some rn_m69 := rfl
theorem ms_70 : rn_ms[70]? = some rn_m70 := rfl
theorem ms_71 : rn_ms[71]? = some rn_m71 := rfl
theorem ms_72 : rn_ms[72]? = some rn_m72 := rfl
theorem ms_73 : rn_ms[73]? = some rn_m73 := rfl
theorem ms_74 : rn_ms[74]? = some rn_m74 := rfl
theorem ms_75 : rn_ms[75]? = some rn_m75 := rfl
theorem ms_76 : rn_ms[76]? = some rn_m76 := rfl
theorem ms_77 : rn_ms[77]? = some rn_m77 := rfl
theorem ms_78 : rn_ms[78]? = some rn_m78 := rfl
theorem ms_79 : rn_ms[79]? = some rn_m79 := rfl
theorem ms_80 : rn_ms[80]? = some rn_m80 := rfl
theorem ms_81 : rn_ms[81]? = some rn_m81 := rfl
theorem ms_82 : rn_ms[82]? = some rn_m82 := rfl
theorem ms_83 : rn_ms[83]? = some rn_m83 := rfl
theorem ms_84 : rn_ms[84]? = some rn_m84 := rfl
theorem ms_85 : rn_ms[85]? = some rn_m85 := rfl
theorem ms_86 : rn_ms[86]? = some rn_m86 := rfl
theorem ms_87 : rn_ms[87]? = some rn_m87 := rfl
theorem ms_88 : rn_ms[88]? = some rn_m88 := rfl
theorem ms_89 : rn_ms[89]? = some rn_m89 := rfl
theorem ms_90 : rn_ms[90]? = some rn_m90 := rfl
theorem ms_91 : rn_ms[91]? = some rn_m91 := rfl
theorem ms_92 : rn_ms[92]? = some rn_m92 := rfl
theorem ms_93 : rn_ms[93]? = some rn_m93 := rfl
theorem ms_94 : rn_ms[94]? = some rn_m94 := rfl
theorem ms_95 : rn_ms[95]? = some rn_m95 := rfl
theorem ms_96 : rn_ms[96]? = some rn_m96 := rfl
theorem ms_97 : rn_ms[97]? = some rn_m97 := rfl
theorem ms_98 : rn_ms[98]? = some rn_m98 := rfl
theorem ms_99 : rn_ms[99]? = some rn_m99 := rfl
theorem ms_100 : rn_ms[100]? = some rn_m100 := rfl
theorem ms_101 : rn_ms[101]? = some rn_m101 := rfl
theorem ms_102 : rn_ms[102]? = some rn_m102 := rfl
theorem ms_103 : rn_ms[103]? = some rn_m103 := rfl
theorem ms_104 : rn_ms[104]? = some rn_m104 := rfl
theorem ms_105 : rn_ms[105]? = some rn_m105 := rfl
theorem ms_106 : rn_ms[106]? = some rn_m106 := rfl
theorem ms_107 : rn_ms[107]? = some rn_m107 := rfl
theorem ms_108 : rn_ms[108]? = some rn_m108 := rfl
theorem ms_109 : rn_ms[109]? = some rn_m109 := rfl
theorem ms_110 : rn_ms[110]? = some rn_m110 := rfl
theorem ms_111 : rn_ms[111]? = some rn_m111 := rfl
theorem ms_112 : rn_ms[112]? = some rn_m112 := rfl
theorem ms_113 : rn_ms[113]? = some rn_m113 := rfl
theorem ms_114 : rn_ms[114]? = some rn_m114 := rfl
theorem ms_115 : rn_ms[115]? = some rn_m115 := rfl
theorem ms_116 : rn_ms[116]? = some rn_m116 := rfl
theorem ms_117 : rn_ms[117]? = some rn_m117 := rfl
theorem ms_118 : rn_ms[118]? = some rn_m118 := rfl
theorem ms_119 : rn_ms[119]? = some rn_m119 := rfl
theorem ms_120 : rn_ms[120]? = some rn_m120 := rfl
theorem ms_121 : rn_ms[121]? = some rn_m121 := rfl
theorem ms_122 : rn_ms[122]? = some rn_m122 := rfl
theorem ms_123 : rn_ms[123]? = some rn_m123 := rfl
theorem ms_124 : rn_ms[124]? = some rn_m124 := rfl
theorem ms_125 : rn_ms[125]? = some rn_m125 := rfl
theorem ms_126 : rn_ms[126]? = some rn_m126 := rfl
theorem ms_127 : rn_ms[127]? = some rn_m127 := rfl
theorem ms_128 : rn_ms[128]? = some rn_m128 := rfl
theorem ms_129 : rn_ms[129]? = some rn_m129 := rfl
theorem ms_130 : rn_ms[130]? = some rn_m130 := rfl
theorem ms_131 : rn_ms[131]? = some rn_m131 := rfl
theorem ms_132 : rn_ms[132]? = some rn_m132 := rfl
theorem ms_133 : rn_ms[133]? = some rn_m133 := rfl
theorem ms_134 : rn_ms[134]? = some rn_m134 := rfl
theorem ms_135 : rn_ms[135]? = some rn_m135 := rfl
theorem ms_136 : rn_ms[136]? = some rn_m136 := rfl
theorem ms_137 : rn_ms[137]? = some rn_m137 := rfl
theorem ms_138 : rn_ms[138]? = some rn_m138 := rfl
theorem ms_139 : rn_ms[139]? = some rn_m139 := rfl
theorem ms_140 : rn_ms[140]? = some rn_m140 := rfl
theorem ms_141 : rn_ms[141]? = some rn_m141 := rfl
theorem ms_142 : rn_ms[142]? = some rn_m142 := rfl
theorem ms_143 : rn_ms[143]? = some rn_m143 := rfl
theorem ms_144 : rn_ms[144]? = some rn_m144 := rfl
theorem ms_145 : rn_ms[145]? = some rn_m145 := rfl
theorem ms_146 : rn_ms[146]? = some rn_m146 := rfl
theorem ms_147 : rn_ms[147]? = some rn_m147 := rfl
theorem ms_148 : rn_ms[148]? = some rn_m148 := rfl
theorem ms_149 : rn_ms[149]? = some rn_m149 := rfl
theorem ms_150 : rn_ms[150]? = some rn_m150 := rfl
theorem ms_151 : rn_ms[151]? = some rn_m151 := rfl
theorem ms_152 : rn_ms[152]? = some rn_m152 := rfl
theorem ms_153 : rn_ms[153]? = some rn_m153 := rfl
theorem ms_154 : rn_ms[154]? = some rn_m154 := rfl
theorem ms_155 : rn_ms[155]? = some rn_m155 := rfl
theorem ms_156 : rn_ms[156]? = some rn_m156 := rfl
theorem ms_157 : rn_ms[157]? = some rn_m157 := rfl
theorem ms_158 : rn_ms[158]? = some rn_m158 := rfl
theorem ms_159 : rn_ms[159]? = some rn_m159 := rfl
theorem ms_160 : rn_ms[160]? = some rn_m160 := rfl
theorem ms_161 : rn_ms[161]? = some rn_m161 := rfl
theorem ms_162 : rn_ms[162]? = some rn_m162 := rfl
theorem ms_163 : rn_ms[163]? = some rn_m163 := rfl
theorem ms_164 : rn_ms[164]? = some rn_m164 := rfl
theorem ms_165 : rn_ms[165]? = some rn_m165 := rfl
theorem ms_166 : rn_ms[166]? = some rn_m166 := rfl
theorem ms_167 : rn_ms[167]? = some rn_m167 := rfl
theorem ms_168 : rn_ms[168]? = some rn_m168 := rfl
theorem ms_169 : rn_ms[169]? = some rn_m169 := rfl
theorem ms_170 : rn_ms[170]? = some rn_m170 := rfl
theorem ms_171 : rn_ms[171]? = some rn_m171 := rfl
theorem ms_172 : rn_ms[172]? = some rn_m172 := rfl
theorem ms_173 : rn_ms[173]? = some rn_m173 := rfl
theorem ms_174 : rn_ms[174]? = some rn_m174 := rfl
theorem ms_175 : rn_ms[175]? = some rn_m175 := rfl
theorem ms_176 : rn_ms[176]? = some rn_m176 := rfl
theorem ms_177 : rn_ms[177]? = some rn_m177 := rfl
theorem ms_178 : rn_ms[178]? = some rn_m178 := rfl
theorem ms_179 : rn_ms[179]? = some rn_m179 := rfl
theorem ms_180 : rn_ms[180]? = some rn_m180 := rfl
theorem ms_181 : rn_ms[181]? = some rn_m181 := rfl
theorem ms_182 : rn_ms[182]? = some rn_m182 := rfl
theorem ms_183 : rn_ms[183]? = some rn_m183 := rfl
theorem ms_184 : rn_ms[184]? = some rn_m184 := rfl
theorem ms_185 : rn_ms[185]? = some rn_m185 := rfl
theorem ms_186 : rn_ms[186]? = some rn_m186 := rfl
theorem ms_187 : rn_ms[187]? = some rn_m187 := rfl
theorem ms_188 : rn_ms[188]? = some rn_m188 := rfl
theorem ms_189 : rn_ms[189]? = some rn_m189 := rfl
theorem ms_190 : rn_ms[190]? = some rn_m190 := rfl
theorem ms_191 : rn_ms[191]? = some rn_m191 := rfl
theorem ms_192 : rn_ms[192]? = some rn_m192 := rfl
theorem ms_193 : rn_ms[193]? = some rn_m193 := rfl
theorem ms_194 : rn_ms[194]? = some rn_m194 := rfl
theorem ms_195 : rn_ms[195]? = some rn_m195 := rfl
theorem ms_196 : rn_ms[196]? = some rn_m196 := rfl
theorem ms_197 : rn_ms[197]? = some rn_m197 := rfl
theorem ms_198 : rn_ms[198]? = some rn_m198 := rfl
theorem ms_199 : rn_ms[199]? = some rn_m199 := rfl
theorem ms_200 : rn_ms[200]? = some rn_m200 := rfl
theorem ms_201 : rn_ms[201]? = some rn_m201 := rfl
theorem ms_202 : rn_ms[202]? = some rn_m202 := rfl
theorem ms_203 : rn_ms[203]? = some rn_m203 := rfl
theorem ms_204 : rn_ms[204]? = some rn_m204 := rfl
theorem ms_205 : rn_ms[205]? = some rn_m205 := rfl
theorem ms_206 : rn_ms[206]? = some rn_m206 := rfl
theorem ms_207 : rn_ms[207]? = some rn_m207 := rfl
theorem ms_208 : rn_ms[208]? = some rn_m208 := rfl
theorem ms_209 : rn_ms[209]? = some rn_m209 := rfl
theorem ms_210 : rn_ms[210]? = some rn_m210 := rfl
theorem ms_211 : rn_ms[211]? = some rn_m211 := rfl
theorem ms_212 : rn_ms[212]? = some rn_m212 := rfl
theorem ms_213 : rn_ms[213]? = some rn_m213 := rfl
theorem ms_214 : rn_ms[214]? = some rn_m214 := rfl
theorem ms_215 : rn_ms[215]? = some rn_m215 := rfl
theorem ms_216 : rn_ms[216]? = some rn_m216 := rfl
theorem ms_217 : rn_ms[217]? = some rn_m217 := rfl
theorem ms_218 : rn_ms[218]? = some rn_m218 := rfl
theorem ms_219 : rn_ms[219]? = some rn_m219 := rfl
