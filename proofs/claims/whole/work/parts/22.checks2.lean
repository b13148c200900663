def rn_j129_0 : List (List Nat) := [[], [], [], [], [], [], []]
theorem rn_k129_0 : rn_chkM rn_m129 rn_t129 rn_j129_0 = true := by decide +kernel
theorem rn_g129 : ∀ e ∈ rn_m129.2.2.2.2.2, rn_good rn_m129 e := rn_chkM_good rn_k129_0
theorem rn_c129 : rn_cw rn_m129 := rn_chkC_cw (js := [86, 1010]) (by decide +kernel)
def rn_j130_0 : List (List Nat) := [[], [], [], [], [], [], [], [], [482], [301], [266], [], [], [], [], [], [482], [293], [601, 558, 559, 77, 560], [], [], [], [], [482], [301], [], [482], [293], [], [1016, 1017, 1018, 80, 1019], [], [486], [], [482], [293], [], [482], [301], [], [994, 995, 996, 83, 997], [], [], [], [482], [301], [], [482], [293], [], [], [], [1016, 1017, 1018, 80, 1019], [], [486], [], [482], [293], [], [482], [301]]
theorem rn_k130_0 : rn_chkM rn_m130 rn_t130_0 rn_j130_0 = true := by decide +kernel
def rn_j130_1 : List (List Nat) := [[], [], [], [994, 995, 996, 83, 997], [], [], [], [482], [301], [273], [], [], [], [], [], [], [], [], [], [], [], [], []]
theorem rn_k130_1 : rn_chkM rn_m130 rn_t130_1 rn_j130_1 = true := by decide +kernel
theorem rn_g130 : ∀ e ∈ rn_m130.2.2.2.2.2, rn_good rn_m130 e := (List.forall_mem_append.mpr ⟨rn_chkM_good rn_k130_0, (rn_chkM_good rn_k130_1)⟩)
theorem rn_c130 : rn_cw rn_m130 := rn_chkC_cw (js := [74, 1015]) (by decide +kernel)
def rn_j131_0 : List (List Nat) := [[], [], [], [], [], [], [140], [], [], [], [], [], [135], [], [], [], [], [274], [], [], [135], [], [], [], [], [], [], [], [], [], []]
theorem rn_k131_0 : rn_chkM rn_m131 rn_t131 rn_j131_0 = true := by decide +kernel
theorem rn_g131 : ∀ e ∈ rn_m131.2.2.2.2.2, rn_good rn_m131 e := rn_chkM_good rn_k131_0
theorem rn_c131 : rn_cw rn_m131 := rn_chkC_cw (js := [80, 1019]) (by decide +kernel)
def rn_j132_0 : List (List Nat) := [[], [659, 623, 74, 624], [], [], [867, 868, 74, 869], [], [], [], [], [482], [301], [266], [], [], [], [], [], [482], [293], [136], [], [], [], [482], [293], [144], [], [], [], [], [486], [], [482], [293], [], [482], [301], [], [], [1024, 1025, 1026, 83, 1027], []]
theorem rn_k132_0 : rn_chkM rn_m132 rn_t132 rn_j132_0 = true := by decide +kernel
theorem rn_g132 : ∀ e ∈ rn_m132.2.2.2.2.2, rn_good rn_m132 e := rn_chkM_good rn_k132_0
theorem rn_c132 : rn_cw rn_m132 := rn_chkC_cw (js := [74, 1023]) (by decide +kernel)
def rn_j133_0 : List (List Nat) := [[], [], [], [], [], [133], [], [952, 954, 30, 83, 955], [], [], [], [], [], [], [133], [], [], [], [], [], [], [], [], [448], [], [], [], [], [], [449], [], [], [], [], [], [], [], [141], [], [], [], [], [450], [], [], [], [], [], [], [155], [], [], [], [], [], [], [1028, 1030, 34, 83, 1031], [], [], []]
theorem rn_k133_0 : rn_chkM rn_m133 rn_t133_0 rn_j133_0 = true := by decide +kernel
def rn_j133_1 : List (List Nat) := [[], [1032, 1034, 35, 83, 1035], []]
theorem rn_k133_1 : rn_chkM rn_m133 rn_t133_1 rn_j133_1 = true := by decide +kernel
theorem rn_g133 : ∀ e ∈ rn_m133.2.2.2.2.2, rn_good rn_m133 e := (List.forall_mem_append.mpr ⟨rn_chkM_good rn_k133_0, (rn_chkM_good rn_k133_1)⟩)
theorem rn_c133 : rn_cw rn_m133 := rn_chkC_cw (js := [83, 1027]) (by decide +kernel)
def rn_j134_0 : List (List Nat) := [[], [], [], [], [], [133], [], [], [], [270], [], [], [], [133], [], [], [], [], [], [], [], [270], [], [], [], [], [], [], [], [], [], [450], [], [272], [], [], [], [], [], [], [], [], [], [], [155], [], [], [], [150], [], [], [], [150], [], [], [450], [], [272], [], []]
theorem rn_k134_0 : rn_chkM rn_m134 rn_t134_0 rn_j134_0 = true := by decide +kernel
def rn_j134_1 : List (List Nat) := [[], [], [], [], [150], [], [], [], [], [], []]
theorem rn_k134_1 : rn_chkM rn_m134 rn_t134_1 rn_j134_1 = true := by decide +kernel
theorem rn_g134 : ∀ e ∈ rn_m134.2.2.2.2.2, rn_good rn_m134 e := (List.forall_mem_append.mpr ⟨rn_chkM_good rn_k134_0, (rn_chkM_good rn_k134_1)⟩)
theorem rn_c134 : rn_cw rn_m134 := rn_chkC_cw (js := [83, 1031]) (by decide +kernel)
def rn_j135_0 : List (List Nat) := [[], [], [], [], [], [], [], [], [], [], [], [], [], [], [], [], [], [1032, 1034, 35, 83, 1035], [], [], [], [], [], [], [], [133], [], [], [449], [], [], [], [], [450], [], [], [], [], [], [], [], [], [], [], [449], [], [], [], [], [], [], [], [], [], [], [], [], [], [1032, 1034, 35, 83, 1035], []]
theorem rn_k135_0 : rn_chkM rn_m135 rn_t135_0 rn_j135_0 = true := by decide +kernel
def rn_j135_1 : List (List Nat) := [[], [], [449], [], [], [], [], [], [], [], [], [], []]
theorem rn_k135_1 : rn_chkM rn_m135 rn_t135_1 rn_j135_1 = true := by decide +kernel
theorem rn_g135 : ∀ e ∈ rn_m135.2.2.2.2.2, rn_good rn_m135 e := (List.forall_mem_append.mpr ⟨rn_chkM_good rn_k135_0, (rn_chkM_good rn_k135_1)⟩)
theorem rn_c135 : rn_cw rn_m135 := rn_chkC_cw (js := [83, 1035]) (by decide +kernel)
def rn_j136_0 : List (List Nat) := [[], [], [], [482], [299], [242], [], [], [482], [296], [200], [], [], [482], [296], [215], [], [], [], [], [482], [301], [266], [], [], [482], [301], [], [482], [293], [], [482], [293], [601, 558, 559, 77, 560], [1016, 1017, 1018, 80, 1019], [], [], [], [], []]
theorem rn_k136_0 : rn_chkM rn_m136 rn_t136 rn_j136_0 = true := by decide +kernel
theorem rn_g136 : ∀ e ∈ rn_m136.2.2.2.2.2, rn_good rn_m136 e := rn_chkM_good rn_k136_0
theorem rn_c136 : rn_cw rn_m136 := rn_chkC_cw (js := [74, 1039]) (by decide +kernel)
def rn_j137_0 : List (List Nat) := [[], [483], [], [482], [1044, 1045, 1046, 76, 1047], [], [], [488], [], []]
theorem rn_k137_0 : rn_chkM rn_m137 rn_t137 rn_j137_0 = true := by decide +kernel
theorem rn_g137 : ∀ e ∈ rn_m137.2.2.2.2.2, rn_good rn_m137 e := rn_chkM_good rn_k137_0
theorem rn_c137 : rn_cw rn_m137 := rn_chkC_cw (js := [74, 1043]) (by decide +kernel)
def rn_j138_0 : List (List Nat) := [[], [291], [], [291], [597, 598, 599, 77, 600], [], [294], [], [294], [1048, 630, 631, 78, 632], [], [297], [], [297], [1049, 719, 720, 79, 721], [], [300], [], [300], [1050, 969, 970, 80, 971], []]
theorem rn_k138_0 : rn_chkM rn_m138 rn_t138 rn_j138_0 = true := by decide +kernel
theorem rn_g138 : ∀ e ∈ rn_m138.2.2.2.2.2, rn_good rn_m138 e := rn_chkM_good rn_k138_0
theorem rn_c138 : rn_cw rn_m138 := rn_chkC_cw (js := [76, 1047]) (by decide +kernel)
def rn_j139_0 : List (List Nat) := [[], [488], [], [], [], [], [482], [], [483], [1044, 1045, 1046, 76, 1047], [], [], [489], [], []]
theorem rn_k139_0 : rn_chkM rn_m139 rn_t139 rn_j139_0 = true := by decide +kernel
theorem rn_g139 : ∀ e ∈ rn_m139.2.2.2.2.2, rn_good rn_m139 e := rn_chkM_good rn_k139_0
theorem rn_c139 : rn_cw rn_m139 := rn_chkC_cw (js := [74, 1054]) (by decide +kernel)
def rn_j140_0 : List (List Nat) := [[], [921, 922, 74, 923], [], [], [924, 925, 74, 926], [], [], [], [], [], [], [], [], [], [], [], [487], [], [], [], [], [1059, 1060, 1061, 84, 1062], [], []]
theorem rn_k140_0 : rn_chkM rn_m140 rn_t140 rn_j140_0 = true := by decide +kernel
theorem rn_g140 : ∀ e ∈ rn_m140.2.2.2.2.2, rn_good rn_m140 e := rn_chkM_good rn_k140_0
theorem rn_c140 : rn_cw rn_m140 := rn_chkC_cw (js := [74, 1058]) (by decide +kernel)
def rn_j141_0 : List (List Nat) := [[], [], [465], [], [], [467], [], [], [468], [], [], [], [], [], [], [470], [], [], [], [], [], []]
theorem rn_k141_0 : rn_chkM rn_m141 rn_t141 rn_j141_0 = true := by decide +kernel
theorem rn_g141 : ∀ e ∈ rn_m141.2.2.2.2.2, rn_good rn_m141 e := rn_chkM_good rn_k141_0
theorem rn_c141 : rn_cw rn_m141 := rn_chkC_cw (js := [84, 1062]) (by decide +kernel)
def rn_j142_0 : List (List Nat) := [[], [921, 922, 74, 923], [], [], [], [], [487], [], [], [466], [], [], [], [], [487], [], [], [], [466], [], [487], [], [], [469], []]
theorem rn_k142_0 : rn_chkM rn_m142 rn_t142 rn_j142_0 = true := by decide +kernel
theorem rn_g142 : ∀ e ∈ rn_m142.2.2.2.2.2, rn_good rn_m142 e := rn_chkM_good rn_k142_0
theorem rn_c142 : rn_cw rn_m142 := rn_chkC_cw (js := [74, 1066]) (by decide +kernel)
def rn_j143_0 : List (List Nat) := [[], [921, 922, 74, 923], [], [], [924, 925, 74, 926], [], [], [], [], [487], [], [], [], [], [], [927, 928, 929, 84, 930], [], [], [], [], [], [], [487], [], [], [], [], [1071, 1072, 1073, 84, 1074], [], []]
theorem rn_k143_0 : rn_chkM rn_m143 rn_t143 rn_j143_0 = true := by decide +kernel
theorem rn_g143 : ∀ e ∈ rn_m143.2.2.2.2.2, rn_good rn_m143 e := rn_chkM_good rn_k143_0
theorem rn_c143 : rn_cw rn_m143 := rn_chkC_cw (js := [74, 1070]) (by decide +kernel)
def rn_j144_0 : List (List Nat) := [[], [470], [], [], [467], [], [], [], [], [], [467], [], [], [], [], [], [], [], []]
theorem rn_k144_0 : rn_chkM rn_m144 rn_t144 rn_j144_0 = true := by decide +kernel
theorem rn_g144 : ∀ e ∈ rn_m144.2.2.2.2.2, rn_good rn_m144 e := rn_chkM_good rn_k144_0
theorem rn_c144 : rn_cw rn_m144 := rn_chkC_cw (js := [84, 1074]) (by decide +kernel)
def rn_j145_0 : List (List Nat) := [[], [1080, 95, 96], [], [], [233], [1081], [], [], [233], [1082], [], [], [233], [1085], [], [], [233], [1086], [], [], [233], [1097], [], [], [233], [1098], [], [], [233], [1099], [], [], [233], [1100], [], [], [233], [1101], [], [], [233], [1103], [], [], [233], [1104], [], [], [233], [1105], [], [], [233], [1106], [], [], [233], [1107], [], []]
theorem rn_k145_0 : rn_chkM rn_m145 rn_t145_0 rn_j145_0 = true := by decide +kernel
def rn_j145_1 : List (List Nat) := [[233], [1108], [], [], [233], [1109], [], [], [233], [1110], [], [], [233], [1111], [], [], [233], [1112], [], [], [233], [1113], [], [], [233], [1114], [], [], [233], [1115], [], [], [233], [1116], [], [], [233], [1117], [], [], [233], [1118], [], [], [233], [1119], [], [], [233], [1120], [], [], [233], [1121], [], [], [233], [1122], [], []]
theorem rn_k145_1 : rn_chkM rn_m145 rn_t145_1 rn_j145_1 = true := by decide +kernel
def rn_j145_2 : List (List Nat) := [[233], [1123], [], [], [233], [1124], [], [], [233], [1125], [], [], [233], [1126], [], [], [233], [1128], [], [], [233], [1129], [], [], [233], [1130], [], [], [233], [1131], [], [], [], [], [], [], [1129], [], [], [], [], [], [], [1081], [], [], [], []]
theorem rn_k145_2 : rn_chkM rn_m145 rn_t145_2 rn_j145_2 = true := by decide +kernel
theorem rn_g145 : ∀ e ∈ rn_m145.2.2.2.2.2, rn_good rn_m145 e := (List.forall_mem_append.mpr ⟨rn_chkM_good rn_k145_0, (List.forall_mem_append.mpr ⟨rn_chkM_good rn_k145_1, (rn_chkM_good rn_k145_2)⟩)⟩)
theorem rn_c145 : rn_cw rn_m145 := rn_chkC_cw (js := [85, 1079]) (by decide +kernel)
def rn_j146_0 : List (List Nat) := [[], [], [], [1239], [1240, 1241, 85, 1242], [], [], [], [], [], [], [], [], [], [], [], [], [], [], [1243], [], [1244], [1245], [1240, 1241, 85, 1242], [], [], [], [], [], [], [1083], [], [], [], [], [], [], [], [], [], [], [], [], [], [1082], [], [1083], [], [], [], [], [], [1243], [], [], [], [], [], [1083], []]
theorem rn_k146_0 : rn_chkM rn_m146 rn_t146_0 rn_j146_0 = true := by decide +kernel
def rn_j146_1 : List (List Nat) := [[], [1083], [], [], [], [1083], []]
theorem rn_k146_1 : rn_chkM rn_m146 rn_t146_1 rn_j146_1 = true := by decide +kernel
theorem rn_g146 : ∀ e ∈ rn_m146.2.2.2.2.2, rn_good rn_m146 e := (List.forall_mem_append.mpr ⟨rn_chkM_good rn_k146_0, (rn_chkM_good rn_k146_1)⟩)
theorem rn_c146 : rn_cw rn_m146 := rn_chkC_cw (js := [85, 1238]) (by decide +kernel)
def rn_j147_0 : List (List Nat) := [[], [], [], [], [], [], [], [], [], [], [], []]
theorem rn_k147_0 : rn_chkM rn_m147 rn_t147 rn_j147_0 = true := by decide +kernel
theorem rn_g147 : ∀ e ∈ rn_m147.2.2.2.2.2, rn_good rn_m147 e := rn_chkM_good rn_k147_0
theorem rn_c147 : rn_cw rn_m147 := rn_chkC_cw (js := [85, 1242]) (by decide +kernel)
def rn_j148_0 : List (List Nat) := [[], [1250, 1252, 36, 85, 1253], [], [], [], [1083], [], [], [], [], [1084], [], [], [], [], [], [], [], [], [1081], [], [], [], [], [], [], [1081], [], [], [], [], [], [], [], [], [], [1081], [], [], [], [], [1085], [], [], [], [], [], [], [1275, 1277, 42, 85, 1278], []]
theorem rn_k148_0 : rn_chkM rn_m148 rn_t148 rn_j148_0 = true := by decide +kernel
theorem rn_g148 : ∀ e ∈ rn_m148.2.2.2.2.2, rn_good rn_m148 e := rn_chkM_good rn_k148_0
theorem rn_c148 : rn_cw rn_m148 := rn_chkC_cw (js := [85, 1249]) (by decide +kernel)
def rn_j149_0 : List (List Nat) := [[], [], [1084], [], [1085], [], [], [], [], [], [1254, 1256, 37, 85, 1257], [], [], [1085], [], [], [], [], [], [], [], [1085], [], [], [], [], [], [1085], [], [], [], [], [], [], [], [], [], [], [1254, 1256, 37, 85, 1257], [], [], [1085], [], [], [], [], [], [1258, 1260, 38, 85, 1261], [], [], [], [], [1085], [], [], [], [], [], [], []]
theorem rn_k149_0 : rn_chkM rn_m149 rn_t149_0 rn_j149_0 = true := by decide +kernel
def rn_j149_1 : List (List Nat) := [[1085], [], [], [], [1085], [], [], [], [], [], [], [1085], [], [], [], [], [1266, 1268, 40, 85, 1269], [], [], [], [], [], [], [1085], [], [], [], [], [], [], [], [], [], [], [], [1085], [], [], [], [], [], [1258, 1260, 38, 85, 1261], [], [], [], [1258, 1260, 38, 85, 1261], [], [], [], [], [1085], [], [], [1270, 1272, 41, 85, 1273], [], [], [1085], [], [], []]
theorem rn_k149_1 : rn_chkM rn_m149 rn_t149_1 rn_j149_1 = true := by decide +kernel
def rn_j149_2 : List (List Nat) := [[], [], [], [1085], [], [], [], [], [], [1254, 1256, 37, 85, 1257], [], [], [1085], [], [], [], [], [], [], [1085], [], [], [], [], [], [1254, 1256, 37, 85, 1257], [], [], [1085], [], [], [], [], [], [], [1085], [], [], [], [], [], [1254, 1256, 37, 85, 1257], [], [], [1085], [], [], [], [], [], [1258, 1260, 38, 85, 1261], [], [], [], [], [1085], [], [], [], []]
theorem rn_k149_2 : rn_chkM rn_m149 rn_t149_2 rn_j149_2 = true := by decide +kernel
def rn_j149_3 : List (List Nat) := [[], [1258, 1260, 38, 85, 1261], [], [], [1262, 1264, 39, 85, 1265], [], [], [], [], [], [], [], [1085], [], [], [], [], [], [1240, 1241, 85, 1242], [], [], [], [], [], [1084], [], [], [1084], [], [1085], [], [], [], [], [1262, 1264, 39, 85, 1265], [], [], [], [], []]
theorem rn_k149_3 : rn_chkM rn_m149 rn_t149_3 rn_j149_3 = true := by decide +kernel
theorem rn_g149 : ∀ e ∈ rn_m149.2.2.2.2.2, rn_good rn_m149 e := (List.forall_mem_append.mpr ⟨rn_chkM_good rn_k149_0, (List.forall_mem_append.mpr ⟨rn_chkM_good rn_k149_1, (List.forall_mem_append.mpr ⟨rn_chkM_good rn_k149_2, (rn_chkM_good rn_k149_3)⟩)⟩)⟩)
theorem rn_c149 : rn_cw rn_m149 := rn_chkC_cw (js := [85, 1253]) (by decide +kernel)
def rn_j150_0 : List (List Nat) := [[], [], [1258, 1260, 38, 85, 1261], [], [], [], [], [1262, 1264, 39, 85, 1265], [], [], [], [], [], [], [], [], [], [1240, 1241, 85, 1242], [], [], [], [], [], [1084], [], [], [1084], [], []]
theorem rn_k150_0 : rn_chkM rn_m150 rn_t150 rn_j150_0 = true := by decide +kernel
theorem rn_g150 : ∀ e ∈ rn_m150.2.2.2.2.2, rn_good rn_m150 e := rn_chkM_good rn_k150_0
theorem rn_c150 : rn_cw rn_m150 := rn_chkC_cw (js := [85, 1257]) (by decide +kernel)
def rn_j151_0 : List (List Nat) := [[], [1262, 1264, 39, 85, 1265], [], [], [], [], [], [], [], [], [1084], [], [], [], [], [], [], [1084], [], []]
theorem rn_k151_0 : rn_chkM rn_m151 rn_t151 rn_j151_0 = true := by decide +kernel
theorem rn_g151 : ∀ e ∈ rn_m151.2.2.2.2.2, rn_good rn_m151 e := rn_chkM_good rn_k151_0
theorem rn_c151 : rn_cw rn_m151 := rn_chkC_cw (js := [85, 1261]) (by decide +kernel)
def rn_j152_0 : List (List Nat) := [[], [1084], [], [1083], [], [], [1082], [], [1084], [], [], [], [], [], [1084], [], [], [1084], [], [], [1084], [], [1083], [], [], [1082], [], [1084], [], [], [], []]
theorem rn_k152_0 : rn_chkM rn_m152 rn_t152 rn_j152_0 = true := by decide +kernel
theorem rn_g152 : ∀ e ∈ rn_m152.2.2.2.2.2, rn_good rn_m152 e := rn_chkM_good rn_k152_0
theorem rn_c152 : rn_cw rn_m152 := rn_chkC_cw (js := [85, 1265]) (by decide +kernel)
def rn_j153_0 : List (List Nat) := [[], [1270, 1272, 41, 85, 1273], [], [], [], [], [], [], [1262, 1264, 39, 85, 1265], [], [], [], [], [], [], [1274], [1240, 1241, 85, 1242], [], [], [], [], [], [], [], [], [], [], [], [], [], [], [], [1084], [], [], [1084], [], [], [], [], [], []]
theorem rn_k153_0 : rn_chkM rn_m153 rn_t153 rn_j153_0 = true := by decide +kernel
theorem rn_g153 : ∀ e ∈ rn_m153.2.2.2.2.2, rn_good rn_m153 e := rn_chkM_good rn_k153_0
theorem rn_c153 : rn_cw rn_m153 := rn_chkC_cw (js := [85, 1269]) (by decide +kernel)
def rn_j154_0 : List (List Nat) := [[], [1262, 1264, 39, 85, 1265], [], [], [], [], [], [], [], [], [], [], [], [], [], [], [], [], [], [], [], [], [], [], [], [], [], [1084], [], [], [], [], [], [], [1084], [], []]
theorem rn_k154_0 : rn_chkM rn_m154 rn_t154 rn_j154_0 = true := by decide +kernel
theorem rn_g154 : ∀ e ∈ rn_m154.2.2.2.2.2, rn_good rn_m154 e := rn_chkM_good rn_k154_0
theorem rn_c154 : rn_cw rn_m154 := rn_chkC_cw (js := [85, 1273]) (by decide +kernel)
def rn_j155_0 : List (List Nat) := [[], [1081], [], [], [], [1081], [], [], [], []]
theorem rn_k155_0 : rn_chkM rn_m155 rn_t155 rn_j155_0 = true := by decide +kernel
theorem rn_g155 : ∀ e ∈ rn_m155.2.2.2.2.2, rn_good rn_m155 e := rn_chkM_good rn_k155_0
theorem rn_c155 : rn_cw rn_m155 := rn_chkC_cw (js := [85, 1278]) (by decide +kernel)
def rn_j156_0 : List (List Nat) := [[], [1081], [], [], [], [], [], [1083], [], [], [], [1283, 1285, 43, 85, 1286], [], [], [], [1083], [], [], [], [], [1084], [], [], [], [], [], [], [1081], [], [], [], [], [1081], [], [], [], [], [1085], [], [], [], [], [], [], [], [1085], [], [], [], [], [1081], [], [], [], [], [], [], [], [], [1085]]
theorem rn_k156_0 : rn_chkM rn_m156 rn_t156_0 rn_j156_0 = true := by decide +kernel
def rn_j156_1 : List (List Nat) := [[], [], [], [], [], [], [], [], [], [], [], [], [], [], [1081], [], [], [], [], [], [1287, 1288, 1289, 85, 1290], []]
theorem rn_k156_1 : rn_chkM rn_m156 rn_t156_1 rn_j156_1 = true := by decide +kernel
theorem rn_g156 : ∀ e ∈ rn_m156.2.2.2.2.2, rn_good rn_m156 e := (List.forall_mem_append.mpr ⟨rn_chkM_good rn_k156_0, (rn_chkM_good rn_k156_1)⟩)
theorem rn_c156 : rn_cw rn_m156 := rn_chkC_cw (js := [85, 1282]) (by decide +kernel)
def rn_j157_0 : List (List Nat) := [[], [], [1084], [], [1081], [], [], [], [], [], [], [], [], [], [], [], [1081], [], [], [], [], [1085], [], [], [], [], [1262, 1264, 39, 85, 1265], [], [], [], [], [], [], [], [], [1275, 1277, 42, 85, 1278], [], [], [], [], [], [], [], [], [], [], [], [], [], [], [], [], [1084], [], [], [1084], [], [], [], [1266, 1268, 40, 85, 1269]]
theorem rn_k157_0 : rn_chkM rn_m157 rn_t157_0 rn_j157_0 = true := by decide +kernel
def rn_j157_1 : List (List Nat) := [[], [], [], [], [], [], [], [], [], [], [], [], [], [], [1085], [], [], [], [], [], [], [1085], [], [], [], [], [], [], [1085], [], [], [], [], [], [], [], [], [1262, 1264, 39, 85, 1265], [], [], [], [], [1081], [], [], [], [], [], [], [], [], [], [], [1085], [], [], [], [1081], [], []]
theorem rn_k157_1 : rn_chkM rn_m157 rn_t157_1 rn_j157_1 = true := by decide +kernel
def rn_j157_2 : List (List Nat) := [[], [], [], [], [], [], [], [], [], [], [], [], [], [1084], [], [], [], [], [], [], [1084], [], [], [], [], [1275, 1277, 42, 85, 1278], [], [], [], [], []]
theorem rn_k157_2 : rn_chkM rn_m157 rn_t157_2 rn_j157_2 = true := by decide +kernel
theorem rn_g157 : ∀ e ∈ rn_m157.2.2.2.2.2, rn_good rn_m157 e := (List.forall_mem_append.mpr ⟨rn_chkM_good rn_k157_0, (List.forall_mem_append.mpr ⟨rn_chkM_good rn_k157_1, (rn_chkM_good rn_k157_2)⟩)⟩)
theorem rn_c157 : rn_cw rn_m157 := rn_chkC_cw (js := [85, 1286]) (by decide +kernel)
def rn_j158_0 : List (List Nat) := [[], [], [], [1291], [1240, 1241, 85, 1242], [], [], [], [], [], [], [1081], [], [], [], [], [], [], [], [], [], [], [], [], [1081], [], [], [], [], [1081], [], [], [], [], [], [], [], [], [1081], [], [], [], [], [], [], [], [1081], [], [], [], [], [], [], [], [], [], [], [], [], []]
theorem rn_k158_0 : rn_chkM rn_m158 rn_t158_0 rn_j158_0 = true := by decide +kernel
def rn_j158_1 : List (List Nat) := [[], [], [], [], [], [], [], [], [1081], [], [], [], [], [], [], [1292, 1294, 44, 85, 1295], [], [], [1307, 1309, 47, 85, 1310], []]
theorem rn_k158_1 : rn_chkM rn_m158 rn_t158_1 rn_j158_1 = true := by decide +kernel
theorem rn_g158 : ∀ e ∈ rn_m158.2.2.2.2.2, rn_good rn_m158 e := (List.forall_mem_append.mpr ⟨rn_chkM_good rn_k158_0, (rn_chkM_good rn_k158_1)⟩)
theorem rn_c158 : rn_cw rn_m158 := rn_chkC_cw (js := [85, 1290]) (by decide +kernel)
def rn_j159_0 : List (List Nat) := [[], [], [], [], [1275, 1277, 42, 85, 1278], [], [], [1119], [], [], [1081], [], [], [], [], [], [], [], [], [], [1119], [], [1081], [], [], [], [1275, 1277, 42, 85, 1278], [1296, 1298, 45, 85, 1299], []]
theorem rn_k159_0 : rn_chkM rn_m159 rn_t159 rn_j159_0 = true := by decide +kernel
theorem rn_g159 : ∀ e ∈ rn_m159.2.2.2.2.2, rn_good rn_m159 e := rn_chkM_good rn_k159_0
theorem rn_c159 : rn_cw rn_m159 := rn_chkC_cw (js := [85, 1295]) (by decide +kernel)
def rn_j160_0 : List (List Nat) := [[], [1117], [], [], [], [], [], [], [], [], [], [1081], [], [], [], [], [], [], [1117], [], [], [], [], [], [], [1081], [], [], [], [], [1081], [], [], [], [1081], [], [], [1300, 1302, 46, 85, 1303], [], [], [1081], [], [], [], [], [], [1118], [], [], [], [], [1117], [], [], [], [], [1081], [], [], []]
theorem rn_k160_0 : rn_chkM rn_m160 rn_t160_0 rn_j160_0 = true := by decide +kernel
def rn_j160_1 : List (List Nat) := [[], [], [], [1117], [], [], [], [], [], [1081], [], [], [], [], [], [], []]
theorem rn_k160_1 : rn_chkM rn_m160 rn_t160_1 rn_j160_1 = true := by decide +kernel
theorem rn_g160 : ∀ e ∈ rn_m160.2.2.2.2.2, rn_good rn_m160 e := (List.forall_mem_append.mpr ⟨rn_chkM_good rn_k160_0, (rn_chkM_good rn_k160_1)⟩)
theorem rn_c160 : rn_cw rn_m160 := rn_chkC_cw (js := [85, 1299]) (by decide +kernel)
def rn_j161_0 : List (List Nat) := [[], [], [], [], [], [], [], [], [], [], [], [], [], [], [], [], [], [], [], [], [1304, 1305, 85, 1306], [], [1304, 1305, 85, 1306], [], [], [], [], [], [], [], [], [], [1304, 1305, 85, 1306], [], [], [], [], [], [], [], [], [], [], [], [], [], [], [], []]
theorem rn_k161_0 : rn_chkM rn_m161 rn_t161 rn_j161_0 = true := by decide +kernel
theorem rn_g161 : ∀ e ∈ rn_m161.2.2.2.2.2, rn_good rn_m161 e := rn_chkM_good rn_k161_0
theorem rn_c161 : rn_cw rn_m161 := rn_chkC_cw (js := [85, 1303]) (by decide +kernel)
def rn_j162_0 : List (List Nat) := [[], [], [], []]
theorem rn_k162_0 : rn_chkM rn_m162 rn_t162 rn_j162_0 = true := by decide +kernel
theorem rn_g162 : ∀ e ∈ rn_m162.2.2.2.2.2, rn_good rn_m162 e := rn_chkM_good rn_k162_0
theorem rn_c162 : rn_cw rn_m162 := rn_chkC_cw (js := [85, 1306]) (by decide +kernel)
def rn_j163_0 : List (List Nat) := [[], [], [], [], [], [], [1081], [], [], [], [], [], [1118], [], [], [], [], [], [], [], [], [], [], [], [], [], []]
theorem rn_k163_0 : rn_chkM rn_m163 rn_t163 rn_j163_0 = true := by decide +kernel
theorem rn_g163 : ∀ e ∈ rn_m163.2.2.2.2.2, rn_good rn_m163 e := rn_chkM_good rn_k163_0
theorem rn_c163 : rn_cw rn_m163 := rn_chkC_cw (js := [85, 1310]) (by decide +kernel)
def rn_j164_0 : List (List Nat) := [[], [], [], [1315], [1240, 1241, 85, 1242], [], [], [], [], [1081], [], [], [], [], [], [], [1081], [], [], [], [], []]
theorem rn_k164_0 : rn_chkM rn_m164 rn_t164 rn_j164_0 = true := by decide +kernel
theorem rn_g164 : ∀ e ∈ rn_m164.2.2.2.2.2, rn_good rn_m164 e := rn_chkM_good rn_k164_0
theorem rn_c164 : rn_cw rn_m164 := rn_chkC_cw (js := [85, 1314]) (by decide +kernel)
def rn_j165_0 : List (List Nat) := [[], [], [], [], [], [], [], [], [], [], [], [], [], [], [], [], [], [1274], [1315], [1240, 1241, 85, 1242], [], [], [], [], [], [], [], [], [], [1320], [], [], [], [], [1240, 1241, 85, 1242], [], [], [], [], [1081], [], [], [], [], [], [], [], [], [], [], [1081], [], [], [], [], [], [], [1081], [], []]
theorem rn_k165_0 : rn_chkM rn_m165 rn_t165_0 rn_j165_0 = true := by decide +kernel
def rn_j165_1 : List (List Nat) := [[], [], [], [], [], [], [], [], [1081], [], [], [], [], []]
theorem rn_k165_1 : rn_chkM rn_m165 rn_t165_1 rn_j165_1 = true := by decide +kernel
theorem rn_g165 : ∀ e ∈ rn_m165.2.2.2.2.2, rn_good rn_m165 e := (List.forall_mem_append.mpr ⟨rn_chkM_good rn_k165_0, (rn_chkM_good rn_k165_1)⟩)
theorem rn_c165 : rn_cw rn_m165 := rn_chkC_cw (js := [85, 1319]) (by decide +kernel)
def rn_j166_0 : List (List Nat) := [[], [], [], [1274], [1240, 1241, 85, 1242], [], [], [], [1320], [1325], [1240, 1241, 85, 1242], [], [], [], [], [1081], [], [], [], [], [], [], [], [1326, 1328, 48, 85, 1329], [], [], [], [1081], [], [], [], [], [], [], [], [], [], [], [1081], [], [], [], [], [], [], [1081], [], [], [], [], [], [], [], [], [], [], [], [], [], []]
theorem rn_k166_0 : rn_chkM rn_m166 rn_t166_0 rn_j166_0 = true := by decide +kernel
def rn_j166_1 : List (List Nat) := [[]]
theorem rn_k166_1 : rn_chkM rn_m166 rn_t166_1 rn_j166_1 = true := by decide +kernel
theorem rn_g166 : ∀ e ∈ rn_m166.2.2.2.2.2, rn_good rn_m166 e := (List.forall_mem_append.mpr ⟨rn_chkM_good rn_k166_0, (rn_chkM_good rn_k166_1)⟩)
theorem rn_c166 : rn_cw rn_m166 := rn_chkC_cw (js := [85, 1324]) (by decide +kernel)
def rn_j167_0 : List (List Nat) := [[], [], [], [], [1081], [], [], [], [], [], [1240, 1241, 85, 1242], []]
theorem rn_k167_0 : rn_chkM rn_m167 rn_t167 rn_j167_0 = true := by decide +kernel
theorem rn_g167 : ∀ e ∈ rn_m167.2.2.2.2.2, rn_good rn_m167 e := rn_chkM_good rn_k167_0
theorem rn_c167 : rn_cw rn_m167 := rn_chkC_cw (js := [85, 1329]) (by decide +kernel)
def rn_j168_0 : List (List Nat) := [[], [], [], [1334], [1240, 1241, 85, 1242], [], [], [], [], [1274], [1240, 1241, 85, 1242], [], [], [], [], [1081], [], [], [], [], [], [], [], [1326, 1328, 48, 85, 1329], [], [], [], [], [], [], [], [], [], [1081], [], [], [], [], [1086], [], [], [], [], [], [], [], [], [], [], [], [1086], [], [], [1335, 1337, 49, 85, 1338], [], [], [], [1086], [], []]
theorem rn_k168_0 : rn_chkM rn_m168 rn_t168_0 rn_j168_0 = true := by decide +kernel
def rn_j168_1 : List (List Nat) := [[], [], [], [], [], [], [], [], [], [], [1086], [], [], [], [], [], [], [], [], [], [], [1086], [], [], [1081], [], [], [], [1081], [], [], [1300, 1302, 46, 85, 1303], [], [], [1081], [], [], [], []]
theorem rn_k168_1 : rn_chkM rn_m168 rn_t168_1 rn_j168_1 = true := by decide +kernel
theorem rn_g168 : ∀ e ∈ rn_m168.2.2.2.2.2, rn_good rn_m168 e := (List.forall_mem_append.mpr ⟨rn_chkM_good rn_k168_0, (rn_chkM_good rn_k168_1)⟩)
theorem rn_c168 : rn_cw rn_m168 := rn_chkC_cw (js := [85, 1333]) (by decide +kernel)
def rn_j169_0 : List (List Nat) := [[], [], [], [1339], [1240, 1241, 85, 1242], [], [], [1081], [], [], [], [], [], [], [], [], [], [], [], []]
theorem rn_k169_0 : rn_chkM rn_m169 rn_t169 rn_j169_0 = true := by decide +kernel
theorem rn_g169 : ∀ e ∈ rn_m169.2.2.2.2.2, rn_good rn_m169 e := rn_chkM_good rn_k169_0
theorem rn_c169 : rn_cw rn_m169 := rn_chkC_cw (js := [85, 1338]) (by decide +kernel)
def rn_j170_0 : List (List Nat) := [[], [], [], [], [], [1274], [1240, 1241, 85, 1242], [], [], [], [], [1339], [1240, 1241, 85, 1242], [], [], [], [], [], [], [], [], [], [], [], [1274], [1240, 1241, 85, 1242], [], [], [], [], [1274], [1240, 1241, 85, 1242], [], [], [], [], [], [], [], [], [], [], [], [1339], [1240, 1241, 85, 1242], [], [], [], [], [1339], [1240, 1241, 85, 1242], [], [], [], [], [], [], [], [], []]
theorem rn_k170_0 : rn_chkM rn_m170 rn_t170_0 rn_j170_0 = true := by decide +kernel
def rn_j170_1 : List (List Nat) := [[], [], [], [], [], [1274], [1240, 1241, 85, 1242], [], [], [], [], [1274], [1240, 1241, 85, 1242], [], [], [], [], [], [], [], [], [], [], [], [], [], [1274], [], [], [1240, 1241, 85, 1242], [], [], [], [], [1081], [], [], [], [], [], [], [], [], [], [], [1335, 1337, 49, 85, 1338], [], [], [], [1335, 1337, 49, 85, 1338], [], [], [], [], [], [], [], [1326, 1328, 48, 85, 1329], [], []]
theorem rn_k170_1 : rn_chkM rn_m170 rn_t170_1 rn_j170_1 = true := by decide +kernel
def rn_j170_2 : List (List Nat) := [[], [], [], [1335, 1337, 49, 85, 1338], [], [], [], [], [], [], [], [1081], [], [], [], [], [], [], [1081], [], [], [], [], [], [], [], [], [], [], [], [], [1081], [], [], [], [], [], [], [], [], [], [1081], [], [], [], [], [], [], [1081], [], [], [], [], [1081], [], [], [], [], [], []]
theorem rn_k170_2 : rn_chkM rn_m170 rn_t170_2 rn_j170_2 = true := by decide +kernel
def rn_j170_3 : List (List Nat) := [[1081], [], [], [], [], [], [], [1081], [], [], [], [], [], [], [1081], [], [], [], [], [], [], [], [1081], [], [], [], [], []]
theorem rn_k170_3 : rn_chkM rn_m170 rn_t170_3 rn_j170_3 = true := by decide +kernel
theorem rn_g170 : ∀ e ∈ rn_m170.2.2.2.2.2, rn_good rn_m170 e := (List.forall_mem_append.mpr ⟨rn_chkM_good rn_k170_0, (List.forall_mem_append.mpr ⟨rn_chkM_good rn_k170_1, (List.forall_mem_append.mpr ⟨rn_chkM_good rn_k170_2, (rn_chkM_good rn_k170_3)⟩)⟩)⟩)
theorem rn_c170 : rn_cw rn_m170 := rn_chkC_cw (js := [85, 1343]) (by decide +kernel)
def rn_j171_0 : List (List Nat) := [[], [1081], [], [], [], [], [1081], [], [], [], [], []]
theorem rn_k171_0 : rn_chkM rn_m171 rn_t171 rn_j171_0 = true := by decide +kernel
theorem rn_g171 : ∀ e ∈ rn_m171.2.2.2.2.2, rn_good rn_m171 e := rn_chkM_good rn_k171_0
theorem rn_c171 : rn_cw rn_m171 := rn_chkC_cw (js := [85, 1347]) (by decide +kernel)
def rn_j172_0 : List (List Nat) := [[], [1081], [], [], [], [1352], [], [], [1353, 1355, 50, 85, 1356], [], [1357, 1359, 51, 85, 1360], [], [1095], []]
theorem rn_k172_0 : rn_chkM rn_m172 rn_t172 rn_j172_0 = true := by decide +kernel
theorem rn_g172 : ∀ e ∈ rn_m172.2.2.2.2.2, rn_good rn_m172 e := rn_chkM_good rn_k172_0
theorem rn_c172 : rn_cw rn_m172 := rn_chkC_cw (js := [85, 1351]) (by decide +kernel)
def rn_j173_0 : List (List Nat) := [[], [], [], [1081], [], [], [], [], [], [1087], [], [], [1088], [], [], [1081], [], [], [1089], [], [], [1081], [], [], [1090], [], [], [1081], [], [], [1091], [], [], [1092], [], [], [1093], [], [], [1094], []]
theorem rn_k173_0 : rn_chkM rn_m173 rn_t173 rn_j173_0 = true := by decide +kernel
theorem rn_g173 : ∀ e ∈ rn_m173.2.2.2.2.2, rn_good rn_m173 e := rn_chkM_good rn_k173_0
theorem rn_c173 : rn_cw rn_m173 := rn_chkC_cw (js := [85, 1356]) (by decide +kernel)
def rn_j174_0 : List (List Nat) := [[], [], [1095], [], [], [1096], [], [], [], [], [], [], [1097], [], [], [], [], [], [], [], [], [], [], [], [1099], [], [], [], [], [1100], [], [], [], [], [], [], [], [1102], [], [1081], [], [], [], [], [], [], [], [1081], [], [], [], [], [], [], [], [1081], [], [], [], []]
theorem rn_k174_0 : rn_chkM rn_m174 rn_t174_0 rn_j174_0 = true := by decide +kernel
def rn_j174_1 : List (List Nat) := [[], [], [1081], [], [], [], [], [], [], [], [], [], [], [1105], [], [], [], [], [], [], [], [], [], [], [1103], [], [1102], [], [], [], [], [], [], [], [1098], [], [1102], [], [], [], [], [1102], [], [], [1102], [], [], [], [], [], [], [], [], [], [], [], [], [], [], []]
theorem rn_k174_1 : rn_chkM rn_m174 rn_t174_1 rn_j174_1 = true := by decide +kernel
def rn_j174_2 : List (List Nat) := [[], [], [], [], [], [], [], [], [], [], [], [], [], [1104], [], [], [], [], [], [], [], [], [], [], [1102], [1361, 1362, 85, 1363], [], [], [1364, 1366, 52, 85, 1367], [], [], [], [], [], [1102], [], [], [1105], [], [1103], [], [], [], [1104], [], [1102], [], [], [1368, 1369, 85, 1370], [], [], [], [], [], [], [], [], [1081], [], []]
theorem rn_k174_2 : rn_chkM rn_m174 rn_t174_2 rn_j174_2 = true := by decide +kernel
def rn_j174_3 : List (List Nat) := [[], [], [1364, 1366, 52, 85, 1367], [], [], [1081], [], [], [], [], [1081], [], [], [], [], [], [], [1371, 1373, 53, 85, 1374], [], [], [], [], []]
theorem rn_k174_3 : rn_chkM rn_m174 rn_t174_3 rn_j174_3 = true := by decide +kernel
theorem rn_g174 : ∀ e ∈ rn_m174.2.2.2.2.2, rn_good rn_m174 e := (List.forall_mem_append.mpr ⟨rn_chkM_good rn_k174_0, (List.forall_mem_append.mpr ⟨rn_chkM_good rn_k174_1, (List.forall_mem_append.mpr ⟨rn_chkM_good rn_k174_2, (rn_chkM_good rn_k174_3)⟩)⟩)⟩)
theorem rn_c174 : rn_cw rn_m174 := rn_chkC_cw (js := [85, 1360]) (by decide +kernel)
def rn_j175_0 : List (List Nat) := [[], [], [], [], [], [], [], [], [], [], [], [], [], [], []]
theorem rn_k175_0 : rn_chkM rn_m175 rn_t175 rn_j175_0 = true := by decide +kernel
theorem rn_g175 : ∀ e ∈ rn_m175.2.2.2.2.2, rn_good rn_m175 e := rn_chkM_good rn_k175_0
theorem rn_c175 : rn_cw rn_m175 := rn_chkC_cw (js := [85, 1363]) (by decide +kernel)
def rn_j176_0 : List (List Nat) := [[], [1094], [], [], [1095], [], [], [], [], [], [], []]
theorem rn_k176_0 : rn_chkM rn_m176 rn_t176 rn_j176_0 = true := by decide +kernel
theorem rn_g176 : ∀ e ∈ rn_m176.2.2.2.2.2, rn_good rn_m176 e := rn_chkM_good rn_k176_0
theorem rn_c176 : rn_cw rn_m176 := rn_chkC_cw (js := [85, 1367]) (by decide +kernel)
def rn_j177_0 : List (List Nat) := [[], [], [], [], [], [], [], [], [], [], [], [], [], [], [], [], [], [], [], [], [], [], [], [], [], [], [], [], [], [], [], [], [], [], [], [], [], [], [], [], [], [], [], [], [], [], [], [], [], [], [], [], [], [], [], [], [], [], [], []]
theorem rn_k177_0 : rn_chkM rn_m177 rn_t177_0 rn_j177_0 = true := by decide +kernel
def rn_j177_1 : List (List Nat) := [[], [], [], [], [], [], [], [], [], []]
theorem rn_k177_1 : rn_chkM rn_m177 rn_t177_1 rn_j177_1 = true := by decide +kernel
theorem rn_g177 : ∀ e ∈ rn_m177.2.2.2.2.2, rn_good rn_m177 e := (List.forall_mem_append.mpr ⟨rn_chkM_good rn_k177_0, (rn_chkM_good rn_k177_1)⟩)
theorem rn_c177 : rn_cw rn_m177 := rn_chkC_cw (js := [85, 1370]) (by decide +kernel)
def rn_j178_0 : List (List Nat) := [[], [], [], [], [], [], [1081], [], [], [], [], [], [1081], [], [], [], [], [], [], [], [], [], [], [], [], [1364, 1366, 52, 85, 1367], [], [], [], [], [1081], [], [], [], [], [], [], [], [], [1106], [], [], [], [1081], [], [], [], [], [], [], [1081], [], [], [], [], [], [], [], [], []]
theorem rn_k178_0 : rn_chkM rn_m178 rn_t178_0 rn_j178_0 = true := by decide +kernel
def rn_j178_1 : List (List Nat) := [[], [], [], [1081], [], [], [], [], [], [], [], [], [], [1081], [], [], [], [], [], [1106], [], [], [], [], [], [], [], [], [], [], [], [], [], [], [], [1081], [], [], [], [], [1081], [], [], [], [], [], [], [], [], [], [], [], [], [], [], [], [1375, 1377, 54, 85, 1378], [], [], []]
theorem rn_k178_1 : rn_chkM rn_m178 rn_t178_1 rn_j178_1 = true := by decide +kernel
theorem rn_g178 : ∀ e ∈ rn_m178.2.2.2.2.2, rn_good rn_m178 e := (List.forall_mem_append.mpr ⟨rn_chkM_good rn_k178_0, (rn_chkM_good rn_k178_1)⟩)
theorem rn_c178 : rn_cw rn_m178 := rn_chkC_cw (js := [85, 1374]) (by decide +kernel)
def rn_j179_0 : List (List Nat) := [[], [], [], [], [], [], [1081], [], [], [], [], [1106], [], [], [], [], [1107], [], [], [], [], [], [], [1091], [], [], [1106], [], [], [], [], [], [], [1107], [], [], [], [], [], [], [], [1081], [], [], [], [], [], [], [], [], [], [], [], [], [], [1106], [], [], [], []]
theorem rn_k179_0 : rn_chkM rn_m179 rn_t179_0 rn_j179_0 = true := by decide +kernel
def rn_j179_1 : List (List Nat) := [[], [], [], [], [], [], [], [], [1088], [], [], [], [1081], [], [], [], [], [], [1081], [], [], [], [], [], [], [], [], [], [], [], [], [], [], [1081], [], [], [], [], [1105], [], [], [], [], [1081], [], [], [], [], [], [], [], [], [], [], [1108], [], [], [], [], []]
theorem rn_k179_1 : rn_chkM rn_m179 rn_t179_1 rn_j179_1 = true := by decide +kernel
def rn_j179_2 : List (List Nat) := [[], [], [], [1115], [], [], [], [], [], [], [1110], [], [], [], [], [], [], [], [1081], [], [], [], [], [], [1081], [], [], [1361, 1362, 85, 1363], [], [], [], [], [], [], [], [1081], [], [], [], [], [1086], [], [], [1108], [], [], [], [], [1081], [], [], [], [], [1368, 1369, 85, 1370], [], [], [], [], [], []]
theorem rn_k179_2 : rn_chkM rn_m179 rn_t179_2 rn_j179_2 = true := by decide +kernel
def rn_j179_3 : List (List Nat) := [[1107], [], [], [], [], [1086], [], [], [1081], [], [], [], [1089], [1300, 1302, 46, 85, 1303], [], [], [1081], [], [], [], [], [], [], [1109], [], [], [], [], [1110], [], [], [], [], [], [], [1110], [], [], [], [], [], [], [], [], [], [], [], [1110], [], [], [], [], [], [], [], [], [], [], [], []]
theorem rn_k179_3 : rn_chkM rn_m179 rn_t179_3 rn_j179_3 = true := by decide +kernel
def rn_j179_4 : List (List Nat) := [[1379, 1381, 55, 85, 1382], [], [], [1383, 1385, 56, 85, 1386], []]
theorem rn_k179_4 : rn_chkM rn_m179 rn_t179_4 rn_j179_4 = true := by decide +kernel
theorem rn_g179 : ∀ e ∈ rn_m179.2.2.2.2.2, rn_good rn_m179 e := (List.forall_mem_append.mpr ⟨rn_chkM_good rn_k179_0, (List.forall_mem_append.mpr ⟨rn_chkM_good rn_k179_1, (List.forall_mem_append.mpr ⟨rn_chkM_good rn_k179_2, (List.forall_mem_append.mpr ⟨rn_chkM_good rn_k179_3, (rn_chkM_good rn_k179_4)⟩)⟩)⟩)⟩)
theorem rn_c179 : rn_cw rn_m179 := rn_chkC_cw (js := [85, 1378]) (by decide +kernel)
