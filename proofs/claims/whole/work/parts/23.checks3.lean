def rn_j180_0 : List (List Nat) := [[], [], [], [], [], [], [1081], [], [], [], [], [], [], [], [], [], [], [1087], [], [], [], [], [], [], [], [], [], [1081], [], [], [], [], [], [1107], [], [1081], [], [], [], [], [], [], [1081], [], [], [], [], [], [], [1081], [], [], [], [], [], [1115], [], [1081], [], []]
theorem rn_k180_0 : rn_chkM rn_m180 rn_t180_0 rn_j180_0 = true := by decide +kernel
def rn_j180_1 : List (List Nat) := [[], [], [], [], [1115], [], [1081], [], [], [], [], [], [], [], [], [], [], [], [], [], []]
theorem rn_k180_1 : rn_chkM rn_m180 rn_t180_1 rn_j180_1 = true := by decide +kernel
theorem rn_g180 : ∀ e ∈ rn_m180.2.2.2.2.2, rn_good rn_m180 e := (List.forall_mem_append.mpr ⟨rn_chkM_good rn_k180_0, (rn_chkM_good rn_k180_1)⟩)
theorem rn_c180 : rn_cw rn_m180 := rn_chkC_cw (js := [85, 1382]) (by decide +kernel)
def rn_j181_0 : List (List Nat) := [[], [1081], [], [], [], [], [], [], [], [], [], [], [], [1112], [], [], [1081], [], [], [], [], [], [], [], [], [], [], [1113], [], [1081], [], [], [], [], [], [1111], [], [], [], [], [], [1081], [], [], [], [], [1364, 1366, 52, 85, 1367], [], [], [1111], [], [], [], [1110], [], [], [], [], [], []]
theorem rn_k181_0 : rn_chkM rn_m181 rn_t181_0 rn_j181_0 = true := by decide +kernel
def rn_j181_1 : List (List Nat) := [[1081], [], [], [], [], [1111], [], [], [], [], [], [], [], [], [], [1387, 1389, 57, 85, 1390], [], [], [1111], [], [], [], [], [], [], [], [], [], [], [], [1111], [], [], [], [], [], [1395, 1397, 59, 85, 1398], [], [1111], [], [], [], [], [], [], [], []]
theorem rn_k181_1 : rn_chkM rn_m181 rn_t181_1 rn_j181_1 = true := by decide +kernel
theorem rn_g181 : ∀ e ∈ rn_m181.2.2.2.2.2, rn_good rn_m181 e := (List.forall_mem_append.mpr ⟨rn_chkM_good rn_k181_0, (rn_chkM_good rn_k181_1)⟩)
theorem rn_c181 : rn_cw rn_m181 := rn_chkC_cw (js := [85, 1386]) (by decide +kernel)
def rn_j182_0 : List (List Nat) := [[], [1081], [], [], [], [], [1109], [], [], [], [], [1111], [], [], [], [], [], [], [], [], [1108], [], [], [], [], [], [], [1368, 1369, 85, 1370], [], [], [1304, 1305, 85, 1306], [], [], [], [], [], [], [], [], [], [1108], [], [], [], [], [], [], [1368, 1369, 85, 1370], [], [], [], [], [1107], [], [], [], [], [], [], []]
theorem rn_k182_0 : rn_chkM rn_m182 rn_t182_0 rn_j182_0 = true := by decide +kernel
def rn_j182_1 : List (List Nat) := [[], [1112], [], [], [], [], [], [], [], [], [], [], [], [], [], [], [], [], [], [], [], [], [], [1090], [], [], [], [1089], [], [], [], [], [1304, 1305, 85, 1306], [], [1089], [], [], [], [1089], [], [], [], [], [], [], [], [], [], [], [], [], [1090], [], [], [], [1304, 1305, 85, 1306], [], [], [], []]
theorem rn_k182_1 : rn_chkM rn_m182 rn_t182_1 rn_j182_1 = true := by decide +kernel
def rn_j182_2 : List (List Nat) := [[], [], [], [], [], [], [], [], [], [], [], [], [], [], [], [], [], [], [], [], [1093], [], [], [], [], [], [], [1112], [], [], [], [], [], [], [], [], [1304, 1305, 85, 1306], [], [], [], [], [1114], [], [], [], [], [], [], [1113], [], [], [1113], [], [], [], [], [], [], [], []]
theorem rn_k182_2 : rn_chkM rn_m182 rn_t182_2 rn_j182_2 = true := by decide +kernel
def rn_j182_3 : List (List Nat) := [[1092], [], [], [], [], [1096], [], [], [1113], [], [], [], [1096], [], [], [], [], [], [], [], [], [], [], [], [], [], [], [], [1391, 1393, 58, 85, 1394], [], [], [], [], []]
theorem rn_k182_3 : rn_chkM rn_m182 rn_t182_3 rn_j182_3 = true := by decide +kernel
theorem rn_g182 : ∀ e ∈ rn_m182.2.2.2.2.2, rn_good rn_m182 e := (List.forall_mem_append.mpr ⟨rn_chkM_good rn_k182_0, (List.forall_mem_append.mpr ⟨rn_chkM_good rn_k182_1, (List.forall_mem_append.mpr ⟨rn_chkM_good rn_k182_2, (rn_chkM_good rn_k182_3)⟩)⟩)⟩)
theorem rn_c182 : rn_cw rn_m182 := rn_chkC_cw (js := [85, 1390]) (by decide +kernel)
def rn_j183_0 : List (List Nat) := [[], [], [], [], [], [], [1081], [], [], [], [], [], [], [], [], [], [], [1087], [], [], [], [], [], [], [], [], [], [1081], [], [], [], [], [1115], [], [1081], [], [], [], [], [], [], [], [], [1114], [], [1081], [], [], [], [], [], [], [1081], [], [], [], [], [], [], []]
theorem rn_k183_0 : rn_chkM rn_m183 rn_t183_0 rn_j183_0 = true := by decide +kernel
def rn_j183_1 : List (List Nat) := [[], [], [], [], [], [1081], [], [], [], [], [], [1081], [], [], [], [], [], [], [], [1112], [], [], [], [], [1081], [], [], [], [], [], [], [], [1081], [], [], [], [], [], [], [], [], [], [], [], [], [], [], [], []]
theorem rn_k183_1 : rn_chkM rn_m183 rn_t183_1 rn_j183_1 = true := by decide +kernel
theorem rn_g183 : ∀ e ∈ rn_m183.2.2.2.2.2, rn_good rn_m183 e := (List.forall_mem_append.mpr ⟨rn_chkM_good rn_k183_0, (rn_chkM_good rn_k183_1)⟩)
theorem rn_c183 : rn_cw rn_m183 := rn_chkC_cw (js := [85, 1394]) (by decide +kernel)
def rn_j184_0 : List (List Nat) := [[], [1092], [], [], [], [1113], [], [], [1096], [], [], [1096], [], [], [], [], [1095], [1095], [], [], [1095], [], [], [], [], [1107], [], [], [], [1101], [], [], [], [], [], [], [], [], [1095], [], [], [], [], [1107], [], [], [], [1101], [], [], [], [], [], [], [], [], [], [], [], [1275, 1277, 42, 85, 1278]]
theorem rn_k184_0 : rn_chkM rn_m184 rn_t184_0 rn_j184_0 = true := by decide +kernel
def rn_j184_1 : List (List Nat) := [[], [], [], [], [], [1399, 1401, 60, 85, 1402], [], [1101], [], [], [], [], [], [], [], [], [], [], [], [1399, 1401, 60, 85, 1402], [], [1101], [], [], [], [], [], [], [], [], [], [], [], [], [], [], [1101], [], [], [1107], [], [], [], [], [], [], [], [1275, 1277, 42, 85, 1278], [], [], [1101], [], [], [], [], [], [1399, 1401, 60, 85, 1402], [], [], []]
theorem rn_k184_1 : rn_chkM rn_m184 rn_t184_1 rn_j184_1 = true := by decide +kernel
def rn_j184_2 : List (List Nat) := [[], [], [1095], [], [], [1095], [], [], [], [], [], [], [1097], [], [], [], [], [], [1335, 1337, 49, 85, 1338], [], [], [], [1114], [], [], [], [], [], [], [], [], [], [], [], [], [], [1102], [], [], [1098], [], [], [], [], [], [1105], [], [1103], [], [], [], [], [], [], [], [], [], [], [], []]
theorem rn_k184_2 : rn_chkM rn_m184 rn_t184_2 rn_j184_2 = true := by decide +kernel
def rn_j184_3 : List (List Nat) := [[1081], [], [], [], [], [1099], [], [], [], [], [], [1107], [], [], [], [], [], [], [1100], [], [], [], [], [], [1106], [], [], [], [], [], [], [], []]
theorem rn_k184_3 : rn_chkM rn_m184 rn_t184_3 rn_j184_3 = true := by decide +kernel
theorem rn_g184 : ∀ e ∈ rn_m184.2.2.2.2.2, rn_good rn_m184 e := (List.forall_mem_append.mpr ⟨rn_chkM_good rn_k184_0, (List.forall_mem_append.mpr ⟨rn_chkM_good rn_k184_1, (List.forall_mem_append.mpr ⟨rn_chkM_good rn_k184_2, (rn_chkM_good rn_k184_3)⟩)⟩)⟩)
theorem rn_c184 : rn_cw rn_m184 := rn_chkC_cw (js := [85, 1398]) (by decide +kernel)
def rn_j185_0 : List (List Nat) := [[], [], [1081], [], [], [], [], [], [1108], [], [], [], [], [1081], [], [], [], [1109], [], [], [], [], [1111], [], [], [], [], [], [], [1081], [], [], [], [1368, 1369, 85, 1370], [], [], []]
theorem rn_k185_0 : rn_chkM rn_m185 rn_t185 rn_j185_0 = true := by decide +kernel
theorem rn_g185 : ∀ e ∈ rn_m185.2.2.2.2.2, rn_good rn_m185 e := rn_chkM_good rn_k185_0
theorem rn_c185 : rn_cw rn_m185 := rn_chkC_cw (js := [85, 1402]) (by decide +kernel)
def rn_j186_0 : List (List Nat) := [[], [], [], [1339], [1240, 1241, 85, 1242], [], [], [], [], [1081], [], [], [], [], [], [], [], [1335, 1337, 49, 85, 1338], [], [], [], [], [1353, 1355, 50, 85, 1356], [], [1357, 1359, 51, 85, 1360], [], [1097], [], [], []]
theorem rn_k186_0 : rn_chkM rn_m186 rn_t186 rn_j186_0 = true := by decide +kernel
theorem rn_g186 : ∀ e ∈ rn_m186.2.2.2.2.2, rn_good rn_m186 e := rn_chkM_good rn_k186_0
theorem rn_c186 : rn_cw rn_m186 := rn_chkC_cw (js := [85, 1406]) (by decide +kernel)
def rn_j187_0 : List (List Nat) := [[], [], [1411, 1404, 1405, 85, 1406], [], [], [], [], [], [], [], [], [], [1081], [], [], [], [], [], [], [], [], [], [], [], [], [], []]
theorem rn_k187_0 : rn_chkM rn_m187 rn_t187 rn_j187_0 = true := by decide +kernel
theorem rn_g187 : ∀ e ∈ rn_m187.2.2.2.2.2, rn_good rn_m187 e := rn_chkM_good rn_k187_0
theorem rn_c187 : rn_cw rn_m187 := rn_chkC_cw (js := [85, 1410]) (by decide +kernel)
def rn_j188_0 : List (List Nat) := [[], [], [], [1274], [1240, 1241, 85, 1242], [], [], [], [], [1325], [1240, 1241, 85, 1242], [], [], [], [], [1081], [], [], [], [], [], [], [], [1326, 1328, 48, 85, 1329], [], [], [], [1081], [], [], [], [], [], [], [], [], [1081], [], [], [], [], [], [], [], [], [], [], [], [], [1353, 1355, 50, 85, 1356], [], [1357, 1359, 51, 85, 1360], [], [], [], [], [1102], [], [], [1103]]
theorem rn_k188_0 : rn_chkM rn_m188 rn_t188_0 rn_j188_0 = true := by decide +kernel
def rn_j188_1 : List (List Nat) := [[], [], [], [], [], [], [], [], [], [1098], [], [], [], [], [], [], []]
theorem rn_k188_1 : rn_chkM rn_m188 rn_t188_1 rn_j188_1 = true := by decide +kernel
theorem rn_g188 : ∀ e ∈ rn_m188.2.2.2.2.2, rn_good rn_m188 e := (List.forall_mem_append.mpr ⟨rn_chkM_good rn_k188_0, (rn_chkM_good rn_k188_1)⟩)
theorem rn_c188 : rn_cw rn_m188 := rn_chkC_cw (js := [85, 1415]) (by decide +kernel)
def rn_j189_0 : List (List Nat) := [[], [], [], [1274], [1240, 1241, 85, 1242], [], [], [], [], [], [1240, 1241, 85, 1242], [], [], [], [], [1081], [], [], [], [], [], [], [], [1081], [], [], [], [], [], [], [1353, 1355, 50, 85, 1356], [], [1357, 1359, 51, 85, 1360], [], [], [], [1099], [], [], [], [], [1100], [], [], []]
theorem rn_k189_0 : rn_chkM rn_m189 rn_t189 rn_j189_0 = true := by decide +kernel
theorem rn_g189 : ∀ e ∈ rn_m189.2.2.2.2.2, rn_good rn_m189 e := rn_chkM_good rn_k189_0
theorem rn_c189 : rn_cw rn_m189 := rn_chkC_cw (js := [85, 1419]) (by decide +kernel)
def rn_j190_0 : List (List Nat) := [[], [], [1320], [1325], [1240, 1241, 85, 1242], [], [], [], [], [1081], [], [], [], [], [], [], [], [1275, 1277, 42, 85, 1278], [], [], [], [], [1353, 1355, 50, 85, 1356], [], [1357, 1359, 51, 85, 1360], [], [1095], [], [], [], [], [], [], [1101], [], [], [], [], []]
theorem rn_k190_0 : rn_chkM rn_m190 rn_t190 rn_j190_0 = true := by decide +kernel
theorem rn_g190 : ∀ e ∈ rn_m190.2.2.2.2.2, rn_good rn_m190 e := rn_chkM_good rn_k190_0
theorem rn_c190 : rn_cw rn_m190 := rn_chkC_cw (js := [85, 1423]) (by decide +kernel)
def rn_j191_0 : List (List Nat) := [[], [], [1320], [1274], [1240, 1241, 85, 1242], [], [], [], [], [1081], [], [], [], [], [], [], [], [1081], [], [], [], [], [], [], [1353, 1355, 50, 85, 1356], [], [], [1092], [], [], [1093], [], [], [1094], [], [1357, 1359, 51, 85, 1360], [], [1096], []]
theorem rn_k191_0 : rn_chkM rn_m191 rn_t191 rn_j191_0 = true := by decide +kernel
theorem rn_g191 : ∀ e ∈ rn_m191.2.2.2.2.2, rn_good rn_m191 e := rn_chkM_good rn_k191_0
theorem rn_c191 : rn_cw rn_m191 := rn_chkC_cw (js := [85, 1427]) (by decide +kernel)
def rn_j192_0 : List (List Nat) := [[], [1081], [], [], [], [], [], [], [1353, 1355, 50, 85, 1356], [], [1087], [], [], [], [], [], [], [], [], [], [], [], [], [], [], [1087], [], [], [], [1432, 1433, 85, 1434], [], [1432, 1433, 85, 1434], [], [], [1435, 1437, 61, 85, 1438], [], [], [], [], [], [], [], [], []]
theorem rn_k192_0 : rn_chkM rn_m192 rn_t192 rn_j192_0 = true := by decide +kernel
theorem rn_g192 : ∀ e ∈ rn_m192.2.2.2.2.2, rn_good rn_m192 e := rn_chkM_good rn_k192_0
theorem rn_c192 : rn_cw rn_m192 := rn_chkC_cw (js := [85, 1431]) (by decide +kernel)
def rn_j193_0 : List (List Nat) := [[], [], [], [], [], [], [], [], [], [], [], [], [], [], [], []]
theorem rn_k193_0 : rn_chkM rn_m193 rn_t193 rn_j193_0 = true := by decide +kernel
theorem rn_g193 : ∀ e ∈ rn_m193.2.2.2.2.2, rn_good rn_m193 e := rn_chkM_good rn_k193_0
theorem rn_c193 : rn_cw rn_m193 := rn_chkC_cw (js := [85, 1434]) (by decide +kernel)
def rn_j194_0 : List (List Nat) := [[], [], [1094], [], [1357, 1359, 51, 85, 1360], [], [1095], [], [], [], [], [], [], []]
theorem rn_k194_0 : rn_chkM rn_m194 rn_t194 rn_j194_0 = true := by decide +kernel
theorem rn_g194 : ∀ e ∈ rn_m194.2.2.2.2.2, rn_good rn_m194 e := rn_chkM_good rn_k194_0
theorem rn_c194 : rn_cw rn_m194 := rn_chkC_cw (js := [85, 1438]) (by decide +kernel)
def rn_j195_0 : List (List Nat) := [[], [1081], [], [], [], [], [], [], [1353, 1355, 50, 85, 1356], [], [], [], [], [], [], [1081], [], [], [], [], [], [1088], [], [], [1435, 1437, 61, 85, 1438], [], [], [], [], [], [], [], [], [], [], [], []]
theorem rn_k195_0 : rn_chkM rn_m195 rn_t195 rn_j195_0 = true := by decide +kernel
theorem rn_g195 : ∀ e ∈ rn_m195.2.2.2.2.2, rn_good rn_m195 e := rn_chkM_good rn_k195_0
theorem rn_c195 : rn_cw rn_m195 := rn_chkC_cw (js := [85, 1442]) (by decide +kernel)
def rn_j196_0 : List (List Nat) := [[], [], [1320], [1447], [1240, 1241, 85, 1242], [], [], [], [], [1081], [], [], [], [], [], [], [1353, 1355, 50, 85, 1356], [], [], [], [], [], [], [], [], [], [], [], [], [], [], [], [], [], [], [1089], [], [], [], [], [], [], [1090], [], [], [], [], [1091], [], [1435, 1437, 61, 85, 1438], [], [], [], [], [], [], [], [], [], []]
theorem rn_k196_0 : rn_chkM rn_m196 rn_t196_0 rn_j196_0 = true := by decide +kernel
def rn_j196_1 : List (List Nat) := [[], [], [], [], []]
theorem rn_k196_1 : rn_chkM rn_m196 rn_t196_1 rn_j196_1 = true := by decide +kernel
theorem rn_g196 : ∀ e ∈ rn_m196.2.2.2.2.2, rn_good rn_m196 e := (List.forall_mem_append.mpr ⟨rn_chkM_good rn_k196_0, (rn_chkM_good rn_k196_1)⟩)
theorem rn_c196 : rn_cw rn_m196 := rn_chkC_cw (js := [85, 1446]) (by decide +kernel)
def rn_j197_0 : List (List Nat) := [[], [], [], [1274], [1240, 1241, 85, 1242], [], [], [], [1452, 1453, 85, 1454], [], [], [], [], [1081], [], [], [], [], [], [], [], [1326, 1328, 48, 85, 1329], [], [], [], [], [], [], [], [], [1275, 1277, 42, 85, 1278], [1455, 1457, 62, 85, 1458], [], [], [], [], [], [], [], [], [], [], [], [1275, 1277, 42, 85, 1278], [], [], [1131], [], [], [], [], [], [], [], [], [], [], [], [1335, 1337, 49, 85, 1338], []]
theorem rn_k197_0 : rn_chkM rn_m197 rn_t197_0 rn_j197_0 = true := by decide +kernel
def rn_j197_1 : List (List Nat) := [[], [], [], [], [], [], [], [], [], [], [], [], [], [], [], [], [1116], [], [], [], [], [], [], [], [1116], [], [], [1275, 1277, 42, 85, 1278], [1296, 1298, 45, 85, 1299], [], [], [], [], [1275, 1277, 42, 85, 1278], [], [], [], [1081], [], [], [], [], [], [], [], [1116], [], [], [], [1081], [], [], [], [], [], [], [], [], [], [1116]]
theorem rn_k197_1 : rn_chkM rn_m197 rn_t197_1 rn_j197_1 = true := by decide +kernel
def rn_j197_2 : List (List Nat) := [[], [], [1459, 1461, 63, 85, 1462], [], [1463, 1465, 64, 85, 1466], [], [1467, 1469, 65, 85, 1470], [], [1116], [], [], [], [], [], [], [], [], [], [], [], [1081], [], [], [], [], [], [], [], [1275, 1277, 42, 85, 1278], [], [], [1081], [], [], [], [], [1116], [], [], [], [], [], [], [1081], [], [], [], [], []]
theorem rn_k197_2 : rn_chkM rn_m197 rn_t197_2 rn_j197_2 = true := by decide +kernel
theorem rn_g197 : ∀ e ∈ rn_m197.2.2.2.2.2, rn_good rn_m197 e := (List.forall_mem_append.mpr ⟨rn_chkM_good rn_k197_0, (List.forall_mem_append.mpr ⟨rn_chkM_good rn_k197_1, (rn_chkM_good rn_k197_2)⟩)⟩)
theorem rn_c197 : rn_cw rn_m197 := rn_chkC_cw (js := [85, 1451]) (by decide +kernel)
def rn_j198_0 : List (List Nat) := [[], [], [], [1274], [1240, 1241, 85, 1242], [], [], [], [], [1291], [1240, 1241, 85, 1242], [], [], [], [], []]
theorem rn_k198_0 : rn_chkM rn_m198 rn_t198 rn_j198_0 = true := by decide +kernel
theorem rn_g198 : ∀ e ∈ rn_m198.2.2.2.2.2, rn_good rn_m198 e := rn_chkM_good rn_k198_0
theorem rn_c198 : rn_cw rn_m198 := rn_chkC_cw (js := [85, 1454]) (by decide +kernel)
def rn_j199_0 : List (List Nat) := [[], [1129], [], [], [], [], [], [1129], [], [], [], [], [], [], [], [], [], [], [], [1130], [], [], [], [], [], [1240, 1241, 85, 1242], [], [], [], [], []]
theorem rn_k199_0 : rn_chkM rn_m199 rn_t199 rn_j199_0 = true := by decide +kernel
theorem rn_g199 : ∀ e ∈ rn_m199.2.2.2.2.2, rn_good rn_m199 e := rn_chkM_good rn_k199_0
theorem rn_c199 : rn_cw rn_m199 := rn_chkC_cw (js := [85, 1458]) (by decide +kernel)
def rn_j200_0 : List (List Nat) := [[], [1117], [], [], [1081], [], [], [], [], [], [], [1081], [], [], [], [], [], [1081], [], [], [], []]
theorem rn_k200_0 : rn_chkM rn_m200 rn_t200 rn_j200_0 = true := by decide +kernel
theorem rn_g200 : ∀ e ∈ rn_m200.2.2.2.2.2, rn_good rn_m200 e := rn_chkM_good rn_k200_0
theorem rn_c200 : rn_cw rn_m200 := rn_chkC_cw (js := [85, 1462]) (by decide +kernel)
def rn_j201_0 : List (List Nat) := [[], [], [], [], [], [], [1275, 1277, 42, 85, 1278], [], [], [], [], [1459, 1461, 63, 85, 1462], [], [], [], [], [], [], [], [], [], [], [], [], [], [], []]
theorem rn_k201_0 : rn_chkM rn_m201 rn_t201 rn_j201_0 = true := by decide +kernel
theorem rn_g201 : ∀ e ∈ rn_m201.2.2.2.2.2, rn_good rn_m201 e := rn_chkM_good rn_k201_0
theorem rn_c201 : rn_cw rn_m201 := rn_chkC_cw (js := [85, 1466]) (by decide +kernel)
def rn_j202_0 : List (List Nat) := [[], [], [], [1081], [], [], [], [], [], [], [], [], [], [], [1304, 1305, 85, 1306], [], [], [], [], [], [], [], [], [], [1081], [], [], [], [], [], [], [], [], [], [1081], [], [], [], [], [], [], [], [1081], [], [], [], [], [], [], [], [], [], []]
theorem rn_k202_0 : rn_chkM rn_m202 rn_t202 rn_j202_0 = true := by decide +kernel
theorem rn_g202 : ∀ e ∈ rn_m202.2.2.2.2.2, rn_good rn_m202 e := rn_chkM_good rn_k202_0
theorem rn_c202 : rn_cw rn_m202 := rn_chkC_cw (js := [85, 1470]) (by decide +kernel)
def rn_j203_0 : List (List Nat) := [[], [1081], [], [], [], [], [1081], [], [], [], [], [], [], [1292, 1294, 44, 85, 1295], [], [], [], [], [1081], [], [], [], [], [], [], [], [], [], [], [], [1081], [], [], [], [], [1118], [], [], [], [], [], [], [], [], [1081], [], [], [], [], [], [], [], [], [], [1475, 1477, 66, 85, 1478], [], [], [], [], []]
theorem rn_k203_0 : rn_chkM rn_m203 rn_t203_0 rn_j203_0 = true := by decide +kernel
def rn_j203_1 : List (List Nat) := [[], [], [1081], [], [], [], [], [], [], [], [], [], [], [1081], [], [], [], [], [], [], [], [], [], [], [1081], [], [], [], [], [1081], [], [], [], [1081], [], [], [], [], [], [], []]
theorem rn_k203_1 : rn_chkM rn_m203 rn_t203_1 rn_j203_1 = true := by decide +kernel
theorem rn_g203 : ∀ e ∈ rn_m203.2.2.2.2.2, rn_good rn_m203 e := (List.forall_mem_append.mpr ⟨rn_chkM_good rn_k203_0, (rn_chkM_good rn_k203_1)⟩)
theorem rn_c203 : rn_cw rn_m203 := rn_chkC_cw (js := [85, 1474]) (by decide +kernel)
def rn_j204_0 : List (List Nat) := [[], [1081], [], [], [], [], [], [], [], [], [], [], [], [1081], [], [], [], [], [], [], [], [], [], [], [], [], [], [], [], [], [], [], [], [], [], [1119], [], [], [], [], [], [], [], [], [], [], [], [], [], [], [], [], [], [], [], [1081], [], [], [], []]
theorem rn_k204_0 : rn_chkM rn_m204 rn_t204_0 rn_j204_0 = true := by decide +kernel
def rn_j204_1 : List (List Nat) := [[], [], [], [], [1119], [], [], [], [], [], [], [], [], [], [], [], [], [], [], [], []]
theorem rn_k204_1 : rn_chkM rn_m204 rn_t204_1 rn_j204_1 = true := by decide +kernel
theorem rn_g204 : ∀ e ∈ rn_m204.2.2.2.2.2, rn_good rn_m204 e := (List.forall_mem_append.mpr ⟨rn_chkM_good rn_k204_0, (rn_chkM_good rn_k204_1)⟩)
theorem rn_c204 : rn_cw rn_m204 := rn_chkC_cw (js := [85, 1478]) (by decide +kernel)
def rn_j205_0 : List (List Nat) := [[], [], [], [1325], [1240, 1241, 85, 1242], [], [], [], [], [], [1240, 1241, 85, 1242], [], [], [], [], [1081], [], [], [], [], [], [], [], [1275, 1277, 42, 85, 1278], [], [], [], [], [1292, 1294, 44, 85, 1295], [], [], [], [], [1459, 1461, 63, 85, 1462], [], [], [1118], [], [], [1081], [], [], [], [], []]
theorem rn_k205_0 : rn_chkM rn_m205 rn_t205 rn_j205_0 = true := by decide +kernel
theorem rn_g205 : ∀ e ∈ rn_m205.2.2.2.2.2, rn_good rn_m205 e := rn_chkM_good rn_k205_0
theorem rn_c205 : rn_cw rn_m205 := rn_chkC_cw (js := [85, 1482]) (by decide +kernel)
def rn_j206_0 : List (List Nat) := [[], [], [], [1487], [1240, 1241, 85, 1242], [], [], [], [], [1081], [], [], [], [], [], [], [], [1275, 1277, 42, 85, 1278], [], [], [], [], [], [1488, 1490, 67, 85, 1491], []]
theorem rn_k206_0 : rn_chkM rn_m206 rn_t206 rn_j206_0 = true := by decide +kernel
theorem rn_g206 : ∀ e ∈ rn_m206.2.2.2.2.2, rn_good rn_m206 e := rn_chkM_good rn_k206_0
theorem rn_c206 : rn_cw rn_m206 := rn_chkC_cw (js := [85, 1486]) (by decide +kernel)
def rn_j207_0 : List (List Nat) := [[], [1292, 1294, 44, 85, 1295], [], [], [], [], [1081], [], [], [], [], [1121], [], [], [], [1119], [], [], [1463, 1465, 64, 85, 1466], [], [], [], [], [], [], [], [], [], [1120], [], [], [1119], [], [], [], [], [], [], [], [1275, 1277, 42, 85, 1278], [], [], [], [], [], [], [], [1492, 1494, 68, 85, 1495], [], [1122], [], [], [], [], [], [], [1122], [], [], []]
theorem rn_k207_0 : rn_chkM rn_m207 rn_t207_0 rn_j207_0 = true := by decide +kernel
def rn_j207_1 : List (List Nat) := [[], [], [], [], [], [], [], [1122], [], [], [], [], [], [], [], [], [], [], [], [1120], [], [], [], [], [1121], [], [], [1459, 1461, 63, 85, 1462], [], [], [], [], [], [], [], [], [], [], [], [], [1275, 1277, 42, 85, 1278], [], [], [], [1492, 1494, 68, 85, 1495], [], [], [], [1120], [], [1081], [], [], [], [1296, 1298, 45, 85, 1299], [], [1123], [], [], []]
theorem rn_k207_1 : rn_chkM rn_m207 rn_t207_1 rn_j207_1 = true := by decide +kernel
def rn_j207_2 : List (List Nat) := [[], [1081], [], [], [], [1307, 1309, 47, 85, 1310], [], [], [], [], [], [1123], [], [], [], [], [1123], [], [], [], [], [], [], [1120], [], [1081], [], [], [], [1296, 1298, 45, 85, 1299], [], [1121], [], [], [1459, 1461, 63, 85, 1462], [], [], [], [], [1120], [], [], [], [], [], [], [], [], [1496, 1498, 69, 85, 1499], []]
theorem rn_k207_2 : rn_chkM rn_m207 rn_t207_2 rn_j207_2 = true := by decide +kernel
theorem rn_g207 : ∀ e ∈ rn_m207.2.2.2.2.2, rn_good rn_m207 e := (List.forall_mem_append.mpr ⟨rn_chkM_good rn_k207_0, (List.forall_mem_append.mpr ⟨rn_chkM_good rn_k207_1, (rn_chkM_good rn_k207_2)⟩)⟩)
theorem rn_c207 : rn_cw rn_m207 := rn_chkC_cw (js := [85, 1491]) (by decide +kernel)
def rn_j208_0 : List (List Nat) := [[], [], [1120], [], [1081], [], [], [], [1296, 1298, 45, 85, 1299], [], [1081], [], [], [], [], [], [], [], [], [], [], [1120], [], [], [], [], [], [], [], [], [1122], [], [], [], [1121], [], [], [1459, 1461, 63, 85, 1462], [], [], [1467, 1469, 65, 85, 1470], [], [], [1123], [], [], [], []]
theorem rn_k208_0 : rn_chkM rn_m208 rn_t208 rn_j208_0 = true := by decide +kernel
theorem rn_g208 : ∀ e ∈ rn_m208.2.2.2.2.2, rn_good rn_m208 e := rn_chkM_good rn_k208_0
theorem rn_c208 : rn_cw rn_m208 := rn_chkC_cw (js := [85, 1495]) (by decide +kernel)
def rn_j209_0 : List (List Nat) := [[], [], [1459, 1461, 63, 85, 1462], [], [], [], [], [], [], [], [], [1123], [], [], [1123], [], [], [], [], [], [], [], [1123], [], [], [], [], [], [], [1123], [], [], [], [], [], [], [1123], [], [], [], []]
theorem rn_k209_0 : rn_chkM rn_m209 rn_t209 rn_j209_0 = true := by decide +kernel
theorem rn_g209 : ∀ e ∈ rn_m209.2.2.2.2.2, rn_good rn_m209 e := rn_chkM_good rn_k209_0
theorem rn_c209 : rn_cw rn_m209 := rn_chkC_cw (js := [85, 1499]) (by decide +kernel)
def rn_j210_0 : List (List Nat) := [[], [], [], [1325], [1240, 1241, 85, 1242], [], [], [], [], [1081], [], [], [], [], [], [], [], [1275, 1277, 42, 85, 1278], [], [], [], [], [], [1504, 1506, 70, 85, 1507], [], [], [], [], [], [1504, 1506, 70, 85, 1507], [], [], [1292, 1294, 44, 85, 1295], [], [], [1459, 1461, 63, 85, 1462], [], [], [], [], [], [], [], [], [], [], []]
theorem rn_k210_0 : rn_chkM rn_m210 rn_t210 rn_j210_0 = true := by decide +kernel
theorem rn_g210 : ∀ e ∈ rn_m210.2.2.2.2.2, rn_good rn_m210 e := rn_chkM_good rn_k210_0
theorem rn_c210 : rn_cw rn_m210 := rn_chkC_cw (js := [85, 1503]) (by decide +kernel)
def rn_j211_0 : List (List Nat) := [[], [], [1488, 1490, 67, 85, 1491], [], [], [1292, 1294, 44, 85, 1295], [], [], [], [], [], [], [], [], [1081], [], [], [], [], [], [], [], [1118], [], [], [], [], [], [], [], [], [], [], [], [], [], [], [], []]
theorem rn_k211_0 : rn_chkM rn_m211 rn_t211 rn_j211_0 = true := by decide +kernel
theorem rn_g211 : ∀ e ∈ rn_m211.2.2.2.2.2, rn_good rn_m211 e := rn_chkM_good rn_k211_0
theorem rn_c211 : rn_cw rn_m211 := rn_chkC_cw (js := [85, 1507]) (by decide +kernel)
def rn_j212_0 : List (List Nat) := [[], [], [], [1274], [1240, 1241, 85, 1242], [], [], [], [], [1274], [1240, 1241, 85, 1242], [], [], [], [], [1081], [], [], [], [], [], [], [], [1326, 1328, 48, 85, 1329], [], [], [], [1081], [], [], [], [], [], [], [1292, 1294, 44, 85, 1295], [], [], [1512, 1514, 71, 85, 1515], [], [], [], [], [1081], [], [], [], [], [], [], [1275, 1277, 42, 85, 1278], [], [], [], [1459, 1461, 63, 85, 1462], [], [], [], [1125], [], []]
theorem rn_k212_0 : rn_chkM rn_m212 rn_t212_0 rn_j212_0 = true := by decide +kernel
def rn_j212_1 : List (List Nat) := [[1119], [], [], [], [], [], [], [], [], [], [], [], [], [], [], [], [1081], [], [], [], [], [], [], [], [], [], [], [], [], [], [], [], [], [], [], [], [], [], [1516, 1518, 72, 85, 1519], [], [], [], [], [], [], [], [], [], []]
theorem rn_k212_1 : rn_chkM rn_m212 rn_t212_1 rn_j212_1 = true := by decide +kernel
theorem rn_g212 : ∀ e ∈ rn_m212.2.2.2.2.2, rn_good rn_m212 e := (List.forall_mem_append.mpr ⟨rn_chkM_good rn_k212_0, (rn_chkM_good rn_k212_1)⟩)
theorem rn_c212 : rn_cw rn_m212 := rn_chkC_cw (js := [85, 1511]) (by decide +kernel)
def rn_j213_0 : List (List Nat) := [[], [1081], [], [], [], [], [], [], [], [], [], [1124], [], [], [], [], [], [], [], [], [], [], [], [], [], [1081], [], [], [], [], [], [1119], [], [], [], [], [], [], [1304, 1305, 85, 1306], [], [], [1119], [], [], [1304, 1305, 85, 1306], [], [], [], [], [], [1124], [], [], [1459, 1461, 63, 85, 1462], [], [], [], [], [], []]
theorem rn_k213_0 : rn_chkM rn_m213 rn_t213_0 rn_j213_0 = true := by decide +kernel
def rn_j213_1 : List (List Nat) := [[], [], [1124], [], [], [1459, 1461, 63, 85, 1462], [], [], [], [1081], [], [], [], [], [], [1081], [], [], [], [], [], [1081], [], [], [], [], [], [1081], [], [], [], [], [], [], [], [], [], []]
theorem rn_k213_1 : rn_chkM rn_m213 rn_t213_1 rn_j213_1 = true := by decide +kernel
theorem rn_g213 : ∀ e ∈ rn_m213.2.2.2.2.2, rn_good rn_m213 e := (List.forall_mem_append.mpr ⟨rn_chkM_good rn_k213_0, (rn_chkM_good rn_k213_1)⟩)
theorem rn_c213 : rn_cw rn_m213 := rn_chkC_cw (js := [85, 1515]) (by decide +kernel)
def rn_j214_0 : List (List Nat) := [[], [], [], [], [], [], [], [], [1081], [], [], [], [], [1126], [], [], [], [], [], [], [], [], [], [], [], [], [], [], [1081], [], [], [], [], [], [], [], [], [1081], [], [], [], [], [], [], [], [], [], [], [], [], [], [], [], [], [1126], [], [], [], [], []]
theorem rn_k214_0 : rn_chkM rn_m214 rn_t214_0 rn_j214_0 = true := by decide +kernel
def rn_j214_1 : List (List Nat) := [[], [], [1126], [], [], [], [1081], [], [], [], [], [], [], [1124], [], [], [], [1125], [], [], [1304, 1305, 85, 1306], [], [], [], [], [], [], [], [], [], [], [], []]
theorem rn_k214_1 : rn_chkM rn_m214 rn_t214_1 rn_j214_1 = true := by decide +kernel
theorem rn_g214 : ∀ e ∈ rn_m214.2.2.2.2.2, rn_good rn_m214 e := (List.forall_mem_append.mpr ⟨rn_chkM_good rn_k214_0, (rn_chkM_good rn_k214_1)⟩)
theorem rn_c214 : rn_cw rn_m214 := rn_chkC_cw (js := [85, 1519]) (by decide +kernel)
def rn_j215_0 : List (List Nat) := [[], [], [], [], [], [], [1128], [], [], [1081], [], [], [], [], [], [], [], [1127], [], []]
theorem rn_k215_0 : rn_chkM rn_m215 rn_t215 rn_j215_0 = true := by decide +kernel
theorem rn_g215 : ∀ e ∈ rn_m215.2.2.2.2.2, rn_good rn_m215 e := rn_chkM_good rn_k215_0
theorem rn_c215 : rn_cw rn_m215 := rn_chkC_cw (js := [85, 1524]) (by decide +kernel)
def rn_j216_0 : List (List Nat) := [[], [1127], [], [], [], [], [], [], [], [], [], [1081], [], [], [1128], [], [], [], [], [], [], []]
theorem rn_k216_0 : rn_chkM rn_m216 rn_t216 rn_j216_0 = true := by decide +kernel
theorem rn_g216 : ∀ e ∈ rn_m216.2.2.2.2.2, rn_good rn_m216 e := rn_chkM_good rn_k216_0
theorem rn_c216 : rn_cw rn_m216 := rn_chkC_cw (js := [85, 1528]) (by decide +kernel)
def rn_j217_0 : List (List Nat) := [[], [], [1452, 1453, 85, 1454], [], [], [], [], [], [], [], [], [], [], [], [1129], [], [], [], [], [1130], [], [], [], [], [], [], [], [], [], [1131], [], [], [], [], [], [], [], [], [], [], []]
theorem rn_k217_0 : rn_chkM rn_m217 rn_t217 rn_j217_0 = true := by decide +kernel
theorem rn_g217 : ∀ e ∈ rn_m217.2.2.2.2.2, rn_good rn_m217 e := rn_chkM_good rn_k217_0
theorem rn_c217 : rn_cw rn_m217 := rn_chkC_cw (js := [85, 1532]) (by decide +kernel)
def rn_j218_0 : List (List Nat) := [[], [], [], [1274], [1240, 1241, 85, 1242], [], [], [], [], [1129], [], [], [], [], [], [], [1129], [], [], [], [], [1130], [], [], []]
theorem rn_k218_0 : rn_chkM rn_m218 rn_t218 rn_j218_0 = true := by decide +kernel
theorem rn_g218 : ∀ e ∈ rn_m218.2.2.2.2.2, rn_good rn_m218 e := rn_chkM_good rn_k218_0
theorem rn_c218 : rn_cw rn_m218 := rn_chkC_cw (js := [85, 1536]) (by decide +kernel)
def rn_j219_0 : List (List Nat) := [[], [], [1452, 1453, 85, 1454], [], [], [], [], [], [], [], [], [1455, 1457, 62, 85, 1458], [], [], [], [], [], [], [1131], [], [], [], [], [], [], [], [], [], [], [], [], [], [], [], [], [], [], [], [], [], [], [], [], [], []]
theorem rn_k219_0 : rn_chkM rn_m219 rn_t219 rn_j219_0 = true := by decide +kernel
theorem rn_g219 : ∀ e ∈ rn_m219.2.2.2.2.2, rn_good rn_m219 e := rn_chkM_good rn_k219_0
theorem rn_c219 : rn_cw rn_m219 := rn_chkC_cw (js := [85, 1540]) (by decide +kernel)
