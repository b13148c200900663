def rn_j0_0 : List (List Nat) := [[89, 90, 74], [], [91, 92, 74, 93], [], [1075, 1076, 85], [], [1077, 1078, 85, 1079], [], [], [], [], [], [], [], [], [], [], [], [], [], [], [], [], [], [], [], [], [], [], [], [], [], [], [], [], [], [], [1541], [], [], [], [], [], [], [], [515, 516, 517, 74, 518], [], [], [], [], [], [], [], [], [], [], [], [], [], []]
theorem rn_k0_0 : rn_chkM rn_m0 rn_t0_0 rn_j0_0 = true := by decide +kernel
def rn_j0_1 : List (List Nat) := [[], [1541], [], [], [], [], [], [], [], [1235, 1236, 1237, 85, 1238], [], [], [], [], [526, 527, 528, 74, 529], [], [1246, 1247, 1248, 85, 1249], [], [], [], [], [602, 603, 604, 74, 605], [], [1279, 1280, 1281, 85, 1282], [], [], [], [], [], [], [], [], [], [636, 637, 638, 74, 639], [], [], [], [], [], [], [1311, 1312, 1313, 85, 1314], [], [], [], [], [], [], [], [], [], [], [], [], [], [], [644, 645, 646, 74, 647], [], [], [], []]
theorem rn_k0_1 : rn_chkM rn_m0 rn_t0_1 rn_j0_1 = true := by decide +kernel
def rn_j0_2 : List (List Nat) := [[], [], [], [], [], [], [], [1316, 1317, 1318, 85, 1319], [], [], [], [], [], [], [], [], [], [], [], [], [], [], [655, 656, 657, 74, 658], [], [], [], [], [], [], [], [], [], [], [], [1321, 1322, 1323, 85, 1324], [], [], [], [], [], [], [], [], [], [], [], [], [], [], [664, 665, 666, 74, 667], [], [], [], [], [], [], [], [], [], []]
theorem rn_k0_2 : rn_chkM rn_m0 rn_t0_2 rn_j0_2 = true := by decide +kernel
def rn_j0_3 : List (List Nat) := [[], [1330, 1331, 1332, 85, 1333], [], [], [], [], [], [], [], [], [], [], [], [], [], [], [], [], [], [], [], [], [], [], [], [], [684, 685, 686, 74, 687], [], [], [], [], [], [], [], [], [], [], [], [], [], [], [], [], [], [], [], [], [], [1340, 1341, 1342, 85, 1343], [], [], [], [], [699, 700, 701, 74, 702], [], [1344, 1345, 1346, 85, 1347], [], [], [], []]
theorem rn_k0_3 : rn_chkM rn_m0 rn_t0_3 rn_j0_3 = true := by decide +kernel
def rn_j0_4 : List (List Nat) := [[703, 704, 705, 74, 706], [], [1348, 1349, 1350, 85, 1351], [], [], [], [], [], [], [], [], [], [], [837, 838, 839, 74, 840], [], [], [], [], [], [], [1403, 1404, 1405, 85, 1406], [], [], [], [], [], [], [], [], [], [849, 850, 851, 74, 852], [], [], [], [], [], [], [1407, 1408, 1409, 85, 1410], [], [], [], [], [], [], [], [], [], [], [], [], [], [], [853, 854, 855, 74, 856], [], [], [], [], [], [], []]
theorem rn_k0_4 : rn_chkM rn_m0 rn_t0_4 rn_j0_4 = true := by decide +kernel
def rn_j0_5 : List (List Nat) := [[], [], [], [], [1412, 1413, 1414, 85, 1415], [], [], [], [], [], [], [], [], [], [], [], [], [], [], [863, 864, 865, 74, 866], [], [], [], [], [], [], [], [], [], [], [], [1416, 1417, 1418, 85, 1419], [], [], [], [], [], [], [], [], [], [870, 871, 872, 74, 873], [], [], [], [], [], [], [1420, 1421, 1422, 85, 1423], [], [], [], [], [], [], [], [], [], [874, 875, 876, 74, 877], []]
theorem rn_k0_5 : rn_chkM rn_m0 rn_t0_5 rn_j0_5 = true := by decide +kernel
def rn_j0_6 : List (List Nat) := [[], [], [], [], [], [1424, 1425, 1426, 85, 1427], [], [], [], [], [882, 883, 884, 74, 885], [], [1428, 1429, 1430, 85, 1431], [], [], [], [], [890, 891, 892, 74, 893], [], [1439, 1440, 1441, 85, 1442], [], [], [], [], [], [], [], [], [], [906, 907, 908, 74, 909], [], [], [], [], [], [], [1443, 1444, 1445, 85, 1446], [], [], [], [], [], [], [], [], [], [], [], [], [], [], [], [], [], [], [], [], [], [], []]
theorem rn_k0_6 : rn_chkM rn_m0 rn_t0_6 rn_j0_6 = true := by decide +kernel
def rn_j0_7 : List (List Nat) := [[], [917, 918, 919, 74, 920], [], [], [], [], [], [], [], [], [], [], [], [], [], [], [], [], [], [], [], [], [], [1448, 1449, 1450, 85, 1451], [], [], [], [], [973, 974, 975, 74, 976], [], [1471, 1472, 1473, 85, 1474], [], [], [], [], [], [], [], [], [], [], [], [], [], [], [986, 987, 988, 74, 989], [], [], [], [], [], [], [], [], [], [], [], [1479, 1480, 1481, 85, 1482], [], []]
theorem rn_k0_7 : rn_chkM rn_m0 rn_t0_7 rn_j0_7 = true := by decide +kernel
def rn_j0_8 : List (List Nat) := [[], [], [], [], [], [], [], [990, 991, 992, 74, 993], [], [], [], [], [], [], [1483, 1484, 1485, 85, 1486], [], [], [], [], [], [], [], [], [], [1012, 1013, 1014, 74, 1015], [], [], [], [], [], [], [1500, 1501, 1502, 85, 1503], [], [], [], [], [], [], [], [], [], [], [], [], [], [], [1020, 1021, 1022, 74, 1023], [], [], [], [], [], [], [], [], [], [], [], [1508, 1509, 1510, 85, 1511], []]
theorem rn_k0_8 : rn_chkM rn_m0 rn_t0_8 rn_j0_8 = true := by decide +kernel
def rn_j0_9 : List (List Nat) := [[], [], [], [], [], [], [], [], [1036, 1037, 1038, 74, 1039], [], [], [], [], [], [], [1520, 1288, 1289, 85, 1290], [], [], [], [], [1040, 1041, 1042, 74, 1043], [], [1521, 1522, 1523, 85, 1524], [], [], [], [], [1051, 1052, 1053, 74, 1054], [], [1525, 1526, 1527, 85, 1528], [], [], [], [], [], [], [], [], [], [], [], [], [], [], [], [], [], [], [], [1055, 1056, 1057, 74, 1058], [], [], [], [], [], [], [], [], [], []]
theorem rn_k0_9 : rn_chkM rn_m0 rn_t0_9 rn_j0_9 = true := by decide +kernel
def rn_j0_10 : List (List Nat) := [[], [], [], [], [], [], [1529, 1530, 1531, 85, 1532], [], [], [], [], [], [], [], [], [], [1063, 1064, 1065, 74, 1066], [], [], [], [], [], [], [1533, 1534, 1535, 85, 1536], [], [], [], [], [], [], [], [], [], [], [], [], [], [], [], [], [], [], [], [], [], [], [], [], [1067, 1068, 1069, 74, 1070], [], [], [], [], [], [], [], [], [], [], []]
theorem rn_k0_10 : rn_chkM rn_m0 rn_t0_10 rn_j0_10 = true := by decide +kernel
def rn_j0_11 : List (List Nat) := [[], [], [], [], [], [], [], [], [], [], [1537, 1538, 1539, 85, 1540], [], [], [], [], [], [], []]
theorem rn_k0_11 : rn_chkM rn_m0 rn_t0_11 rn_j0_11 = true := by decide +kernel
theorem rn_g0 : ∀ e ∈ rn_m0.2.2.2.2.2, rn_good rn_m0 e := (List.forall_mem_append.mpr ⟨rn_chkM_good rn_k0_0, (List.forall_mem_append.mpr ⟨rn_chkM_good rn_k0_1, (List.forall_mem_append.mpr ⟨rn_chkM_good rn_k0_2, (List.forall_mem_append.mpr ⟨rn_chkM_good rn_k0_3, (List.forall_mem_append.mpr ⟨rn_chkM_good rn_k0_4, (List.forall_mem_append.mpr ⟨rn_chkM_good rn_k0_5, (List.forall_mem_append.mpr ⟨rn_chkM_good rn_k0_6, (List.forall_mem_append.mpr ⟨rn_chkM_good rn_k0_7, (List.forall_mem_append.mpr ⟨rn_chkM_good rn_k0_8, (List.forall_mem_append.mpr ⟨rn_chkM_good rn_k0_9, (List.forall_mem_append.mpr ⟨rn_chkM_good rn_k0_10, (rn_chkM_good rn_k0_11)⟩)⟩)⟩)⟩)⟩)⟩)⟩)⟩)⟩)⟩)⟩)
def rn_j1_0 : List (List Nat) := [[], [94, 95, 96], [], [97, 98, 75], [], [99, 100, 75, 101], [481], [], [115, 116, 76], [], [117, 118, 76, 119], [482], [], [115, 116, 76], [], [117, 118, 76, 119], [483], [], [115, 116, 76], [], [117, 118, 76, 119], [484], [], [311, 312, 81], [], [313, 314, 81, 315], [485], [], [442, 443, 83], [], [444, 445, 83, 446], [486], [], [], [458, 459], [487], [], [], [], [], [], [], [487], [], [458, 460, 84], [], [461, 462, 84, 463], [], [], [], []]
theorem rn_k1_0 : rn_chkM rn_m1 rn_t1 rn_j1_0 = true := by decide +kernel
theorem rn_g1 : ∀ e ∈ rn_m1.2.2.2.2.2, rn_good rn_m1 e := rn_chkM_good rn_k1_0
theorem rn_c1 : rn_cw rn_m1 := rn_chkC_cw (js := [74, 93]) (by decide +kernel)
def rn_j2_0 : List (List Nat) := [[], [102, 95, 96], [], [], [114], [103], []]
theorem rn_k2_0 : rn_chkM rn_m2 rn_t2 rn_j2_0 = true := by decide +kernel
theorem rn_g2 : ∀ e ∈ rn_m2.2.2.2.2.2, rn_good rn_m2 e := rn_chkM_good rn_k2_0
theorem rn_c2 : rn_cw rn_m2 := rn_chkC_cw (js := [75, 101]) (by decide +kernel)
def rn_j3_0 : List (List Nat) := [[], [120, 95, 96], [], [121, 122, 77], [], [123, 124, 77, 125], [291], [], [192, 193, 78], [], [194, 195, 78, 196], [294], [], [234, 235, 79], [], [236, 237, 79, 238], [297], [], [258, 259, 80], [], [260, 261, 80, 262], [300], []]
theorem rn_k3_0 : rn_chkM rn_m3 rn_t3 rn_j3_0 = true := by decide +kernel
theorem rn_g3 : ∀ e ∈ rn_m3.2.2.2.2.2, rn_good rn_m3 e := rn_chkM_good rn_k3_0
theorem rn_c3 : rn_cw rn_m3 := rn_chkC_cw (js := [76, 119]) (by decide +kernel)
def rn_j4_0 : List (List Nat) := [[], [126, 95, 96], [], [], [130], [], [], [138], [], [], [148], [], [], [169], []]
theorem rn_k4_0 : rn_chkM rn_m4 rn_t4 rn_j4_0 = true := by decide +kernel
theorem rn_g4 : ∀ e ∈ rn_m4.2.2.2.2.2, rn_good rn_m4 e := rn_chkM_good rn_k4_0
theorem rn_c4 : rn_cw rn_m4 := rn_chkC_cw (js := [77, 125]) (by decide +kernel)
def rn_j5_0 : List (List Nat) := [[], [197, 95, 96], [], [], [233], [201], [], [], [233], [204], [], [], [233], [207], []]
theorem rn_k5_0 : rn_chkM rn_m5 rn_t5 rn_j5_0 = true := by decide +kernel
theorem rn_g5 : ∀ e ∈ rn_m5.2.2.2.2.2, rn_good rn_m5 e := rn_chkM_good rn_k5_0
theorem rn_c5 : rn_cw rn_m5 := rn_chkC_cw (js := [78, 196]) (by decide +kernel)
def rn_j6_0 : List (List Nat) := [[], [239, 95, 96], [], [], [233], [243], [], [], [233], [244], [], [], [233], [245], [], [], [233], [246], []]
theorem rn_k6_0 : rn_chkM rn_m6 rn_t6 rn_j6_0 = true := by decide +kernel
theorem rn_g6 : ∀ e ∈ rn_m6.2.2.2.2.2, rn_good rn_m6 e := rn_chkM_good rn_k6_0
theorem rn_c6 : rn_cw rn_m6 := rn_chkC_cw (js := [79, 238]) (by decide +kernel)
def rn_j7_0 : List (List Nat) := [[], [263, 95, 96], [], [], [233], [269], [], [], [233], [271], [], [], [233], [274], [], [], [233], [276], []]
theorem rn_k7_0 : rn_chkM rn_m7 rn_t7 rn_j7_0 = true := by decide +kernel
theorem rn_g7 : ∀ e ∈ rn_m7.2.2.2.2.2, rn_good rn_m7 e := rn_chkM_good rn_k7_0
theorem rn_c7 : rn_cw rn_m7 := rn_chkC_cw (js := [80, 262]) (by decide +kernel)
def rn_j8_0 : List (List Nat) := [[], [316, 95, 96], [], [317, 122, 77], [], [318, 124, 77, 125], [372], [], [319, 193, 78], [], [320, 195, 78, 196], [374], [], [321, 235, 79], [], [322, 237, 79, 238], [376], [], [], [323, 324], [377], [], [], [233], [378], [], [], [233], [379], [], [], [233], [380], [], [], [233], [381], [], [], [233], [382], [], [], [233], [397], [], [], [233], [399], [], [], [], [], [], [], [377], [], [323, 325, 82], [], [326, 327, 82, 328]]
theorem rn_k8_0 : rn_chkM rn_m8 rn_t8_0 rn_j8_0 = true := by decide +kernel
def rn_j8_1 : List (List Nat) := [[], [], [], []]
theorem rn_k8_1 : rn_chkM rn_m8 rn_t8_1 rn_j8_1 = true := by decide +kernel
theorem rn_g8 : ∀ e ∈ rn_m8.2.2.2.2.2, rn_good rn_m8 e := (List.forall_mem_append.mpr ⟨rn_chkM_good rn_k8_0, (rn_chkM_good rn_k8_1)⟩)
theorem rn_c8 : rn_cw rn_m8 := rn_chkC_cw (js := [81, 315]) (by decide +kernel)
def rn_j9_0 : List (List Nat) := [[], [329, 95, 96], [], [], [233], [336], [], [], [233], [338], [], [], [233], [340], [], [], [233], [342], [], [], [233], [344], [], [], [371], [346], [], [], [233], [348], []]
theorem rn_k9_0 : rn_chkM rn_m9 rn_t9 rn_j9_0 = true := by decide +kernel
theorem rn_g9 : ∀ e ∈ rn_m9.2.2.2.2.2, rn_good rn_m9 e := rn_chkM_good rn_k9_0
theorem rn_c9 : rn_cw rn_m9 := rn_chkC_cw (js := [82, 328]) (by decide +kernel)
def rn_j10_0 : List (List Nat) := [[], [447, 95, 96], [], [], [233], [448], [], [], [233], [449], [], [], [233], [450], []]
theorem rn_k10_0 : rn_chkM rn_m10 rn_t10 rn_j10_0 = true := by decide +kernel
theorem rn_g10 : ∀ e ∈ rn_m10.2.2.2.2.2, rn_good rn_m10 e := rn_chkM_good rn_k10_0
theorem rn_c10 : rn_cw rn_m10 := rn_chkC_cw (js := [83, 446]) (by decide +kernel)
def rn_j11_0 : List (List Nat) := [[], [464, 95, 96], [], [], [233], [470], []]
theorem rn_k11_0 : rn_chkM rn_m11 rn_t11 rn_j11_0 = true := by decide +kernel
theorem rn_g11 : ∀ e ∈ rn_m11.2.2.2.2.2, rn_good rn_m11 e := rn_chkM_good rn_k11_0
theorem rn_c11 : rn_cw rn_m11 := rn_chkC_cw (js := [84, 463]) (by decide +kernel)
def rn_j12_0 : List (List Nat) := [[], [], [], [], [], [], [], [], [519, 520, 75, 521], [], [], [], [], [481], [104], [], [], [], [], [], [], [], [481], [], [], [522, 523, 524, 75, 525], [], [481], [104], []]
theorem rn_k12_0 : rn_chkM rn_m12 rn_t12 rn_j12_0 = true := by decide +kernel
theorem rn_g12 : ∀ e ∈ rn_m12.2.2.2.2.2, rn_good rn_m12 e := rn_chkM_good rn_k12_0
theorem rn_c12 : rn_cw rn_m12 := rn_chkC_cw (js := [74, 518]) (by decide +kernel)
def rn_j13_0 : List (List Nat) := [[], [], [], [], [], [], [], [], [], [], [], [], [], [], [], [], [], [], [], [], [], [], [], [], [], []]
theorem rn_k13_0 : rn_chkM rn_m13 rn_t13 rn_j13_0 = true := by decide +kernel
theorem rn_g13 : ∀ e ∈ rn_m13.2.2.2.2.2, rn_good rn_m13 e := rn_chkM_good rn_k13_0
theorem rn_c13 : rn_cw rn_m13 := rn_chkC_cw (js := [75, 521]) (by decide +kernel)
def rn_j14_0 : List (List Nat) := [[], [], [], [], [], [], [], [105], [], [], [], [103], [], [105], [], [], [], [], [], [], [], [], [], [], [105], [], [], [105], [], [], []]
theorem rn_k14_0 : rn_chkM rn_m14 rn_t14 rn_j14_0 = true := by decide +kernel
theorem rn_g14 : ∀ e ∈ rn_m14.2.2.2.2.2, rn_good rn_m14 e := rn_chkM_good rn_k14_0
theorem rn_c14 : rn_cw rn_m14 := rn_chkC_cw (js := [75, 525]) (by decide +kernel)
def rn_j15_0 : List (List Nat) := [[], [481], [], [484], [293], [530, 531, 532, 75, 533], [], [], [481], [585, 586, 587, 75, 588], [], [], [481], [589, 590, 591, 75, 592], [], [], [], [], [], [482], [], [484], [293], [593, 594, 595, 76, 596], [], [], [489], [], [482], [293], [601, 558, 559, 77, 560], []]
theorem rn_k15_0 : rn_chkM rn_m15 rn_t15 rn_j15_0 = true := by decide +kernel
theorem rn_g15 : ∀ e ∈ rn_m15.2.2.2.2.2, rn_good rn_m15 e := rn_chkM_good rn_k15_0
theorem rn_c15 : rn_cw rn_m15 := rn_chkC_cw (js := [74, 529]) (by decide +kernel)
def rn_j16_0 : List (List Nat) := [[], [], [129], [], [], [534, 536, 0, 75, 537], [], [], [], [553, 555, 4, 75, 556], [], [], [], [569, 571, 7, 75, 572], [], [], [], [573, 575, 8, 75, 576], [], [], [], [577, 579, 9, 75, 580], [], [], [581, 583, 10, 75, 584], [], [], [], [], []]
theorem rn_k16_0 : rn_chkM rn_m16 rn_t16 rn_j16_0 = true := by decide +kernel
theorem rn_g16 : ∀ e ∈ rn_m16.2.2.2.2.2, rn_good rn_m16 e := rn_chkM_good rn_k16_0
theorem rn_c16 : rn_cw rn_m16 := rn_chkC_cw (js := [75, 533]) (by decide +kernel)
def rn_j17_0 : List (List Nat) := [[], [], [538, 540, 1, 75, 541], [], [], [], [], [], [], [546, 548, 3, 75, 549], [], [], [], [], [], [], [538, 540, 1, 75, 541], [], [], [], [], [], [], [], [], [], [550, 551, 86, 552], [546, 548, 3, 75, 549], [], [], [], [], [], [], [], [], [137], [], [], [143], [], [], [538, 540, 1, 75, 541], []]
theorem rn_k17_0 : rn_chkM rn_m17 rn_t17 rn_j17_0 = true := by decide +kernel
theorem rn_g17 : ∀ e ∈ rn_m17.2.2.2.2.2, rn_good rn_m17 e := rn_chkM_good rn_k17_0
theorem rn_c17 : rn_cw rn_m17 := rn_chkC_cw (js := [75, 537]) (by decide +kernel)
def rn_j18_0 : List (List Nat) := [[], [542, 544, 2, 75, 545], [], [], [], [], [], [], [106], [], [], [106], [], []]
theorem rn_k18_0 : rn_chkM rn_m18 rn_t18 rn_j18_0 = true := by decide +kernel
theorem rn_g18 : ∀ e ∈ rn_m18.2.2.2.2.2, rn_good rn_m18 e := rn_chkM_good rn_k18_0
theorem rn_c18 : rn_cw rn_m18 := rn_chkC_cw (js := [75, 541]) (by decide +kernel)
def rn_j19_0 : List (List Nat) := [[], [106], [], [105], [], [], [103], [], [106], [], [], [], [], [], [106], [], [], [106], [], [], [106], [], [105], [], [], [103], [], [106], [], [], [], []]
theorem rn_k19_0 : rn_chkM rn_m19 rn_t19 rn_j19_0 = true := by decide +kernel
theorem rn_g19 : ∀ e ∈ rn_m19.2.2.2.2.2, rn_good rn_m19 e := rn_chkM_good rn_k19_0
theorem rn_c19 : rn_cw rn_m19 := rn_chkC_cw (js := [75, 545]) (by decide +kernel)
def rn_j20_0 : List (List Nat) := [[], [542, 544, 2, 75, 545], [], [], [], [], [], [], [], [], [], [], [], [], [], [106], [], [], [106], [], []]
theorem rn_k20_0 : rn_chkM rn_m20 rn_t20 rn_j20_0 = true := by decide +kernel
theorem rn_g20 : ∀ e ∈ rn_m20.2.2.2.2.2, rn_good rn_m20 e := rn_chkM_good rn_k20_0
theorem rn_c20 : rn_cw rn_m20 := rn_chkC_cw (js := [75, 549]) (by decide +kernel)
def rn_j21_0 : List (List Nat) := [[], [], [], [], [], [], []]
theorem rn_k21_0 : rn_chkM rn_m21 rn_t21 rn_j21_0 = true := by decide +kernel
theorem rn_g21 : ∀ e ∈ rn_m21.2.2.2.2.2, rn_good rn_m21 e := rn_chkM_good rn_k21_0
theorem rn_c21 : rn_cw rn_m21 := rn_chkC_cw (js := [86, 552]) (by decide +kernel)
def rn_j22_0 : List (List Nat) := [[], [], [147], [], [], [], [], [557, 558, 559, 77, 560], [], [], [], [147], [561, 563, 5, 75, 564], [], [], [], [], [], [], [], [147], [], [], [], [], [147], [], [], [], []]
theorem rn_k22_0 : rn_chkM rn_m22 rn_t22 rn_j22_0 = true := by decide +kernel
theorem rn_g22 : ∀ e ∈ rn_m22.2.2.2.2.2, rn_good rn_m22 e := rn_chkM_good rn_k22_0
theorem rn_c22 : rn_cw rn_m22 := rn_chkC_cw (js := [75, 556]) (by decide +kernel)
def rn_j23_0 : List (List Nat) := [[], [130], [], [138], [], []]
theorem rn_k23_0 : rn_chkM rn_m23 rn_t23 rn_j23_0 = true := by decide +kernel
theorem rn_g23 : ∀ e ∈ rn_m23.2.2.2.2.2, rn_good rn_m23 e := rn_chkM_good rn_k23_0
theorem rn_c23 : rn_cw rn_m23 := rn_chkC_cw (js := [77, 560]) (by decide +kernel)
def rn_j24_0 : List (List Nat) := [[], [565, 567, 6, 75, 568], [], [], [], [], [], [], [], [106], [], [], [106], [], [542, 544, 2, 75, 545], [], [], [], [], [], [], [], [], [], [], [], [], [], [], [], [], [], [], [], [], [], [], [106], [], [], [106], [], [], [], [], [], []]
theorem rn_k24_0 : rn_chkM rn_m24 rn_t24 rn_j24_0 = true := by decide +kernel
theorem rn_g24 : ∀ e ∈ rn_m24.2.2.2.2.2, rn_good rn_m24 e := rn_chkM_good rn_k24_0
theorem rn_c24 : rn_cw rn_m24 := rn_chkC_cw (js := [75, 564]) (by decide +kernel)
def rn_j25_0 : List (List Nat) := [[], [542, 544, 2, 75, 545], [], [], [], [], [], [], [], [], [], [], []]
theorem rn_k25_0 : rn_chkM rn_m25 rn_t25 rn_j25_0 = true := by decide +kernel
theorem rn_g25 : ∀ e ∈ rn_m25.2.2.2.2.2, rn_good rn_m25 e := rn_chkM_good rn_k25_0
theorem rn_c25 : rn_cw rn_m25 := rn_chkC_cw (js := [75, 568]) (by decide +kernel)
def rn_j26_0 : List (List Nat) := [[], [], [151], [], [], [538, 540, 1, 75, 541], [], [], [], [], [], [538, 540, 1, 75, 541], [], [], [], [], [], [565, 567, 6, 75, 568], [151], [], [151], [], [], [], [], [], [106], [], [], [106], [], []]
theorem rn_k26_0 : rn_chkM rn_m26 rn_t26 rn_j26_0 = true := by decide +kernel
theorem rn_g26 : ∀ e ∈ rn_m26.2.2.2.2.2, rn_good rn_m26 e := rn_chkM_good rn_k26_0
theorem rn_c26 : rn_cw rn_m26 := rn_chkC_cw (js := [75, 572]) (by decide +kernel)
def rn_j27_0 : List (List Nat) := [[], [], [], [538, 540, 1, 75, 541], [], [], [], [], [546, 548, 3, 75, 549], [], [], [157], [], [157], [], [], [], [], [], [], [538, 540, 1, 75, 541], [], [], [], [], [546, 548, 3, 75, 549], [], [], [163], [], [163], [], [], [], [], [], [], [538, 540, 1, 75, 541], [], [], [], [], [546, 548, 3, 75, 549], [], [], [168], [], [168], [], [], [], [], []]
theorem rn_k27_0 : rn_chkM rn_m27 rn_t27 rn_j27_0 = true := by decide +kernel
theorem rn_g27 : ∀ e ∈ rn_m27.2.2.2.2.2, rn_good rn_m27 e := rn_chkM_good rn_k27_0
theorem rn_c27 : rn_cw rn_m27 := rn_chkC_cw (js := [75, 576]) (by decide +kernel)
def rn_j28_0 : List (List Nat) := [[], [], [171], [], [], [538, 540, 1, 75, 541], [], [], [], [], [], [538, 540, 1, 75, 541], [], [], [], [], [], [], [], [137], [], [], [546, 548, 3, 75, 549], [171], [], [171], [], [], [], [], []]
theorem rn_k28_0 : rn_chkM rn_m28 rn_t28 rn_j28_0 = true := by decide +kernel
theorem rn_g28 : ∀ e ∈ rn_m28.2.2.2.2.2, rn_good rn_m28 e := rn_chkM_good rn_k28_0
theorem rn_c28 : rn_cw rn_m28 := rn_chkC_cw (js := [75, 580]) (by decide +kernel)
def rn_j29_0 : List (List Nat) := [[], [542, 544, 2, 75, 545], [], [], [], [], []]
theorem rn_k29_0 : rn_chkM rn_m29 rn_t29 rn_j29_0 = true := by decide +kernel
theorem rn_g29 : ∀ e ∈ rn_m29.2.2.2.2.2, rn_good rn_m29 e := rn_chkM_good rn_k29_0
theorem rn_c29 : rn_cw rn_m29 := rn_chkC_cw (js := [75, 584]) (by decide +kernel)
def rn_j30_0 : List (List Nat) := [[], [], [106], [], []]
theorem rn_k30_0 : rn_chkM rn_m30 rn_t30 rn_j30_0 = true := by decide +kernel
theorem rn_g30 : ∀ e ∈ rn_m30.2.2.2.2.2, rn_good rn_m30 e := rn_chkM_good rn_k30_0
theorem rn_c30 : rn_cw rn_m30 := rn_chkC_cw (js := [75, 588]) (by decide +kernel)
def rn_j31_0 : List (List Nat) := [[], [], [105], [], [], [106], []]
theorem rn_k31_0 : rn_chkM rn_m31 rn_t31 rn_j31_0 = true := by decide +kernel
theorem rn_g31 : ∀ e ∈ rn_m31.2.2.2.2.2, rn_good rn_m31 e := rn_chkM_good rn_k31_0
theorem rn_c31 : rn_cw rn_m31 := rn_chkC_cw (js := [75, 592]) (by decide +kernel)
def rn_j32_0 : List (List Nat) := [[], [291], [], [597, 598, 599, 77, 600], [], [294], [], [199], [], [297], [], [240], [], [300], [], [265], []]
theorem rn_k32_0 : rn_chkM rn_m32 rn_t32 rn_j32_0 = true := by decide +kernel
theorem rn_g32 : ∀ e ∈ rn_m32.2.2.2.2.2, rn_good rn_m32 e := rn_chkM_good rn_k32_0
theorem rn_c32 : rn_cw rn_m32 := rn_chkC_cw (js := [76, 596]) (by decide +kernel)
def rn_j33_0 : List (List Nat) := [[], [], [128], [128], [], [], [130], [130], [], [], [138], [138], [], [], [145], [145], [], [], [148], [148], [], [], [153], [153], [], [], [159], [159], [], [], [165], [165], [], [], [169], [169], []]
theorem rn_k33_0 : rn_chkM rn_m33 rn_t33 rn_j33_0 = true := by decide +kernel
theorem rn_g33 : ∀ e ∈ rn_m33.2.2.2.2.2, rn_good rn_m33 e := rn_chkM_good rn_k33_0
theorem rn_c33 : rn_cw rn_m33 := rn_chkC_cw (js := [77, 600]) (by decide +kernel)
def rn_j34_0 : List (List Nat) := [[], [482], [293], [127], [], [], [481], [589, 590, 591, 75, 592], [], [], [], [481], [], [484], [296], [], [482], [293], [606, 607, 608, 75, 609], [], [], [481], [585, 586, 587, 75, 588], [], [], [481], [589, 590, 591, 75, 592], [], [], [], [], [], [482], [296], [], [484], [296], [629, 630, 631, 78, 632], [], [], [489], [], [482], [296], [215], []]
theorem rn_k34_0 : rn_chkM rn_m34 rn_t34 rn_j34_0 = true := by decide +kernel
theorem rn_g34 : ∀ e ∈ rn_m34.2.2.2.2.2, rn_good rn_m34 e := rn_chkM_good rn_k34_0
theorem rn_c34 : rn_cw rn_m34 := rn_chkC_cw (js := [74, 605]) (by decide +kernel)
def rn_j35_0 : List (List Nat) := [[], [610, 611, 612, 78, 613], [], [], [], [], [137], [], [], [], [], [], [538, 540, 1, 75, 541], [], [], [], [], [], [], [], [614, 616, 11, 75, 617], [], [], [], [], [], [], [581, 583, 10, 75, 584], [], [], [210], [], [557, 558, 559, 77, 560], [], [], [], [], []]
theorem rn_k35_0 : rn_chkM rn_m35 rn_t35 rn_j35_0 = true := by decide +kernel
theorem rn_g35 : ∀ e ∈ rn_m35.2.2.2.2.2, rn_good rn_m35 e := rn_chkM_good rn_k35_0
theorem rn_c35 : rn_cw rn_m35 := rn_chkC_cw (js := [75, 609]) (by decide +kernel)
def rn_j36_0 : List (List Nat) := [[], [], [198], [], [], [209], [], [], [211], [], [], [214], [], [], [], [], [], [], [201], [], [], [], [], [204], [], [], [], [], [], []]
theorem rn_k36_0 : rn_chkM rn_m36 rn_t36 rn_j36_0 = true := by decide +kernel
theorem rn_g36 : ∀ e ∈ rn_m36.2.2.2.2.2, rn_good rn_m36 e := rn_chkM_good rn_k36_0
theorem rn_c36 : rn_cw rn_m36 := rn_chkC_cw (js := [78, 613]) (by decide +kernel)
def rn_j37_0 : List (List Nat) := [[], [], [], [], [], [], [542, 544, 2, 75, 545], [], [], [], [565, 567, 6, 75, 568], [], [], [210], [], [557, 558, 559, 77, 560], [], [], [], [], [], [], [542, 544, 2, 75, 545], [], [], [], [217], [], [], [], [], [], [], [106], [], [], [106], [], [], [], [147], [], [], [], [213], [], [561, 563, 5, 75, 564], [], [], [], [], [], [], [], [], [], [137], [618, 619, 620, 78, 621], [], []]
theorem rn_k37_0 : rn_chkM rn_m37 rn_t37_0 rn_j37_0 = true := by decide +kernel
def rn_j37_1 : List (List Nat) := [[], [], [], [137], [625, 626, 627, 78, 628], []]
theorem rn_k37_1 : rn_chkM rn_m37 rn_t37_1 rn_j37_1 = true := by decide +kernel
theorem rn_g37 : ∀ e ∈ rn_m37.2.2.2.2.2, rn_good rn_m37 e := (List.forall_mem_append.mpr ⟨rn_chkM_good rn_k37_0, (rn_chkM_good rn_k37_1)⟩)
theorem rn_c37 : rn_cw rn_m37 := rn_chkC_cw (js := [75, 617]) (by decide +kernel)
def rn_j38_0 : List (List Nat) := [[], [622, 623, 74, 624], [], [], [201], [], [], [], [], [], [], [207], [], [], [], [], [201], [], [], [], [], [], [], [201], [], [], [], [], [], [], [], [], [209], [], [], [209], [], [], [], [], [], [214], [], [], [214], [], [], [], [211], [], [], [], [], [211], [], [201], [], [], [], [204]]
theorem rn_k38_0 : rn_chkM rn_m38 rn_t38_0 rn_j38_0 = true := by decide +kernel
def rn_j38_1 : List (List Nat) := [[], [], [], [], [], [], [], [], [204], [], [], [], [], [], [], []]
theorem rn_k38_1 : rn_chkM rn_m38 rn_t38_1 rn_j38_1 = true := by decide +kernel
theorem rn_g38 : ∀ e ∈ rn_m38.2.2.2.2.2, rn_good rn_m38 e := (List.forall_mem_append.mpr ⟨rn_chkM_good rn_k38_0, (rn_chkM_good rn_k38_1)⟩)
theorem rn_c38 : rn_cw rn_m38 := rn_chkC_cw (js := [78, 621]) (by decide +kernel)
def rn_j39_0 : List (List Nat) := [[], [], [], [], [], [], [], [], []]
theorem rn_k39_0 : rn_chkM rn_m39 rn_t39 rn_j39_0 = true := by decide +kernel
theorem rn_g39 : ∀ e ∈ rn_m39.2.2.2.2.2, rn_good rn_m39 e := rn_chkM_good rn_k39_0
theorem rn_c39 : rn_cw rn_m39 := rn_chkC_cw (js := [74, 624]) (by decide +kernel)
def rn_j40_0 : List (List Nat) := [[], [201], [], [], [], [204], [], [], [], [], [], [], [], [], []]
theorem rn_k40_0 : rn_chkM rn_m40 rn_t40 rn_j40_0 = true := by decide +kernel
theorem rn_g40 : ∀ e ∈ rn_m40.2.2.2.2.2, rn_good rn_m40 e := rn_chkM_good rn_k40_0
theorem rn_c40 : rn_cw rn_m40 := rn_chkC_cw (js := [78, 628]) (by decide +kernel)
def rn_j41_0 : List (List Nat) := [[], [], [198], [198], [], [], [209], [209], [], [], [211], [211], [], [], [214], [214], [], [201], [], [], [201], [], [], [633, 635, 634, 87], [], [204], [], [], [204], [], [], [633, 635, 634, 87], [], [207], [], [], [207], [], [], [633, 635, 634, 87], []]
theorem rn_k41_0 : rn_chkM rn_m41 rn_t41 rn_j41_0 = true := by decide +kernel
theorem rn_g41 : ∀ e ∈ rn_m41.2.2.2.2.2, rn_good rn_m41 e := rn_chkM_good rn_k41_0
theorem rn_c41 : rn_cw rn_m41 := rn_chkC_cw (js := [78, 632]) (by decide +kernel)
def rn_j42_0 : List (List Nat) := [[], [], [], [], [], [], [], [], [482], [293], [127], [], [], [], [], [482], [293], [], [640, 641, 642, 77, 643], [], [], [], [], [], [], []]
theorem rn_k42_0 : rn_chkM rn_m42 rn_t42 rn_j42_0 = true := by decide +kernel
theorem rn_g42 : ∀ e ∈ rn_m42.2.2.2.2.2, rn_good rn_m42 e := rn_chkM_good rn_k42_0
theorem rn_c42 : rn_cw rn_m42 := rn_chkC_cw (js := [74, 639]) (by decide +kernel)
def rn_j43_0 : List (List Nat) := [[], [], [], [130], [], [], [138], [], [], [145], [], [], [148], [], [], [153], [], [], [159], [], [], [165], [], [], [169], []]
theorem rn_k43_0 : rn_chkM rn_m43 rn_t43 rn_j43_0 = true := by decide +kernel
theorem rn_g43 : ∀ e ∈ rn_m43.2.2.2.2.2, rn_good rn_m43 e := rn_chkM_good rn_k43_0
theorem rn_c43 : rn_cw rn_m43 := rn_chkC_cw (js := [77, 643]) (by decide +kernel)
def rn_j44_0 : List (List Nat) := [[], [], [648, 649, 77, 650], [], [], [], [], [482], [293], [127], [], [], [], [], [], [], [], [], [482], [293], [136], [], [], [], [], [482], [293], [], [], [651, 652, 653, 77, 654], [], [482], [301], [], [266], [], [], [489], [], []]
theorem rn_k44_0 : rn_chkM rn_m44 rn_t44 rn_j44_0 = true := by decide +kernel
theorem rn_g44 : ∀ e ∈ rn_m44.2.2.2.2.2, rn_good rn_m44 e := rn_chkM_good rn_k44_0
theorem rn_c44 : rn_cw rn_m44 := rn_chkC_cw (js := [74, 647]) (by decide +kernel)
def rn_j45_0 : List (List Nat) := [[], [], [], [], [], [], [], [], [], [], [], [], [], [], [], [], [], [], [], [], [], [], [], [], [], [], [], [], [], [], [], [], [], [], [], [], [], [], [], [], [], []]
theorem rn_k45_0 : rn_chkM rn_m45 rn_t45 rn_j45_0 = true := by decide +kernel
theorem rn_g45 : ∀ e ∈ rn_m45.2.2.2.2.2, rn_good rn_m45 e := rn_chkM_good rn_k45_0
theorem rn_c45 : rn_cw rn_m45 := rn_chkC_cw (js := [77, 650]) (by decide +kernel)
def rn_j46_0 : List (List Nat) := [[], [], [], [], [148], [], [], [], [153], [], [], [], [159], [], [], [], [165], [], [], [], [169], []]
theorem rn_k46_0 : rn_chkM rn_m46 rn_t46 rn_j46_0 = true := by decide +kernel
theorem rn_g46 : ∀ e ∈ rn_m46.2.2.2.2.2, rn_good rn_m46 e := rn_chkM_good rn_k46_0
theorem rn_c46 : rn_cw rn_m46 := rn_chkC_cw (js := [77, 654]) (by decide +kernel)
def rn_j47_0 : List (List Nat) := [[], [659, 623, 74, 624], [], [], [], [], [], [], [], [], [], [], [482], [296], [200], [], [], [], [], [], [482], [293], [136], [], [], [], [482], [296], [202], [], [], [], [], [], [], [], [], [482], [296], [202], [], [], [], [], [482], [296], [], [], [660, 661, 662, 78, 663], []]
theorem rn_k47_0 : rn_chkM rn_m47 rn_t47 rn_j47_0 = true := by decide +kernel
theorem rn_g47 : ∀ e ∈ rn_m47.2.2.2.2.2, rn_good rn_m47 e := rn_chkM_good rn_k47_0
theorem rn_c47 : rn_cw rn_m47 := rn_chkC_cw (js := [74, 658]) (by decide +kernel)
def rn_j48_0 : List (List Nat) := [[], [207], [], [], [], [], [], [], []]
theorem rn_k48_0 : rn_chkM rn_m48 rn_t48 rn_j48_0 = true := by decide +kernel
theorem rn_g48 : ∀ e ∈ rn_m48.2.2.2.2.2, rn_good rn_m48 e := rn_chkM_good rn_k48_0
theorem rn_c48 : rn_cw rn_m48 := rn_chkC_cw (js := [78, 663]) (by decide +kernel)
def rn_j49_0 : List (List Nat) := [[], [], [], [668], [], [], [659, 623, 74, 624], [], [], [], [], [482], [293], [127], [], [], [], [], [], [482], [293], [136], [], [], [], [], [], [], [], [], [], [], [], [], [], [482], [293], [136], [], [], [], [], [], [], [], [], [], [], [482], [293], [], [669, 670, 671, 77, 672], [], [], [], [], [], [], [], []]
theorem rn_k49_0 : rn_chkM rn_m49 rn_t49_0 rn_j49_0 = true := by decide +kernel
def rn_j49_1 : List (List Nat) := [[], [], [], [], [], [], [], [], [482], [293], [], [], [], [673, 674, 675, 77, 676], [], [], [482], [293], [], [677, 678, 679, 77, 680], [], [], [], [], [681, 682, 77, 683], []]
theorem rn_k49_1 : rn_chkM rn_m49 rn_t49_1 rn_j49_1 = true := by decide +kernel
theorem rn_g49 : ∀ e ∈ rn_m49.2.2.2.2.2, rn_good rn_m49 e := (List.forall_mem_append.mpr ⟨rn_chkM_good rn_k49_0, (rn_chkM_good rn_k49_1)⟩)
theorem rn_c49 : rn_cw rn_m49 := rn_chkC_cw (js := [74, 667]) (by decide +kernel)
def rn_j50_0 : List (List Nat) := [[], [], [], [], [], [], [145], [], [], [], [], [], [], [], [], []]
theorem rn_k50_0 : rn_chkM rn_m50 rn_t50 rn_j50_0 = true := by decide +kernel
theorem rn_g50 : ∀ e ∈ rn_m50.2.2.2.2.2, rn_good rn_m50 e := rn_chkM_good rn_k50_0
theorem rn_c50 : rn_cw rn_m50 := rn_chkC_cw (js := [77, 672]) (by decide +kernel)
def rn_j51_0 : List (List Nat) := [[], [], [], [], [], [], [], [], [], [], [], [], [], [], [], [], [], [], [], [], [], [], [], [], [], [], [], [], [], [], [], [], [], [], [], [], [], [], [148], [], [], [], [], [], [], [], [], [], [], [], [], [], [], [], [], [], [], [], [], []]
theorem rn_k51_0 : rn_chkM rn_m51 rn_t51 rn_j51_0 = true := by decide +kernel
theorem rn_g51 : ∀ e ∈ rn_m51.2.2.2.2.2, rn_good rn_m51 e := rn_chkM_good rn_k51_0
theorem rn_c51 : rn_cw rn_m51 := rn_chkC_cw (js := [77, 676]) (by decide +kernel)
def rn_j52_0 : List (List Nat) := [[], [], [], [], [130], [], [], [], [], [], [], []]
theorem rn_k52_0 : rn_chkM rn_m52 rn_t52 rn_j52_0 = true := by decide +kernel
theorem rn_g52 : ∀ e ∈ rn_m52.2.2.2.2.2, rn_good rn_m52 e := rn_chkM_good rn_k52_0
theorem rn_c52 : rn_cw rn_m52 := rn_chkC_cw (js := [77, 680]) (by decide +kernel)
def rn_j53_0 : List (List Nat) := [[], [], [], [], [], []]
theorem rn_k53_0 : rn_chkM rn_m53 rn_t53 rn_j53_0 = true := by decide +kernel
theorem rn_g53 : ∀ e ∈ rn_m53.2.2.2.2.2, rn_good rn_m53 e := rn_chkM_good rn_k53_0
theorem rn_c53 : rn_cw rn_m53 := rn_chkC_cw (js := [77, 683]) (by decide +kernel)
def rn_j54_0 : List (List Nat) := [[], [], [], [], [688, 689, 79, 690], [], [], [], [], [482], [293], [127], [], [], [], [], [482], [293], [], [], [], [], [691, 692, 79, 693], [], [], [], [], [482], [299], [242], [], [], [], [], [], [], [489], [], [482], [299], [], [], [], [], [695, 696, 697, 79, 698], []]
theorem rn_k54_0 : rn_chkM rn_m54 rn_t54 rn_j54_0 = true := by decide +kernel
theorem rn_g54 : ∀ e ∈ rn_m54.2.2.2.2.2, rn_good rn_m54 e := rn_chkM_good rn_k54_0
theorem rn_c54 : rn_cw rn_m54 := rn_chkC_cw (js := [74, 687]) (by decide +kernel)
def rn_j55_0 : List (List Nat) := [[], [], [], [], [], [], [], [], [], [], [], [], [], [], [], [], [], [], [], [], [], [], [], [], [], [], [], [], [], [], [], [], [], [], [], [], [], [], [], [], [], [], [], [], [], [], [], [], [], [], [], [], [], [], [], [], [], [], [], []]
theorem rn_k55_0 : rn_chkM rn_m55 rn_t55_0 rn_j55_0 = true := by decide +kernel
def rn_j55_1 : List (List Nat) := [[], []]
theorem rn_k55_1 : rn_chkM rn_m55 rn_t55_1 rn_j55_1 = true := by decide +kernel
theorem rn_g55 : ∀ e ∈ rn_m55.2.2.2.2.2, rn_good rn_m55 e := (List.forall_mem_append.mpr ⟨rn_chkM_good rn_k55_0, (rn_chkM_good rn_k55_1)⟩)
theorem rn_c55 : rn_cw rn_m55 := rn_chkC_cw (js := [79, 690]) (by decide +kernel)
def rn_j56_0 : List (List Nat) := [[], [], [], [], [132], [], [], [], [694, 670, 671, 77, 672], [], [], [], [], [], [], [], [132], [], [], [], [139], [], [], [], [], [], [], [], [694, 670, 671, 77, 672], [], [], [], [694, 670, 671, 77, 672], [], [], [], [], [], [], [], [132], [], [], [], [139], [], [], [], [], []]
theorem rn_k56_0 : rn_chkM rn_m56 rn_t56 rn_j56_0 = true := by decide +kernel
theorem rn_g56 : ∀ e ∈ rn_m56.2.2.2.2.2, rn_good rn_m56 e := rn_chkM_good rn_k56_0
theorem rn_c56 : rn_cw rn_m56 := rn_chkC_cw (js := [79, 693]) (by decide +kernel)
def rn_j57_0 : List (List Nat) := [[], [241], [], [], [], [], [], [243], [], [], [], [], [244], [], [], [], [], [245], [], [], [], [], [246], [], [], [], [], [], [241], [], [], [241], [], []]
theorem rn_k57_0 : rn_chkM rn_m57 rn_t57 rn_j57_0 = true := by decide +kernel
theorem rn_g57 : ∀ e ∈ rn_m57.2.2.2.2.2, rn_good rn_m57 e := rn_chkM_good rn_k57_0
theorem rn_c57 : rn_cw rn_m57 := rn_chkC_cw (js := [79, 698]) (by decide +kernel)
def rn_j58_0 : List (List Nat) := [[], [482], [299], [242], [], [], [482], [299], [], [242], [], [], [489], [], []]
theorem rn_k58_0 : rn_chkM rn_m58 rn_t58 rn_j58_0 = true := by decide +kernel
theorem rn_g58 : ∀ e ∈ rn_m58.2.2.2.2.2, rn_good rn_m58 e := rn_chkM_good rn_k58_0
theorem rn_c58 : rn_cw rn_m58 := rn_chkC_cw (js := [74, 702]) (by decide +kernel)
def rn_j59_0 : List (List Nat) := [[], [482], [296], [200], [], [707], [], [], [708, 710, 12, 74, 711], [], [485], [387], []]
theorem rn_k59_0 : rn_chkM rn_m59 rn_t59 rn_j59_0 = true := by decide +kernel
theorem rn_g59 : ∀ e ∈ rn_m59.2.2.2.2.2, rn_good rn_m59 e := rn_chkM_good rn_k59_0
theorem rn_c59 : rn_cw rn_m59 := rn_chkC_cw (js := [74, 706]) (by decide +kernel)
def rn_j60_0 : List (List Nat) := [[], [489], [], [], [], [], [485], [], [482], [712, 713, 714, 81, 715], [], [485], [723, 724, 725, 81, 726], [], [], [489], [], [], [489], []]
theorem rn_k60_0 : rn_chkM rn_m60 rn_t60 rn_j60_0 = true := by decide +kernel
theorem rn_g60 : ∀ e ∈ rn_m60.2.2.2.2.2, rn_good rn_m60 e := rn_chkM_good rn_k60_0
theorem rn_c60 : rn_cw rn_m60 := rn_chkC_cw (js := [74, 711]) (by decide +kernel)
def rn_j61_0 : List (List Nat) := [[], [372], [], [292], [716, 598, 599, 77, 600], [], [374], [], [295], [717, 630, 631, 78, 632], [], [376], [], [298], [718, 719, 720, 79, 721], []]
theorem rn_k61_0 : rn_chkM rn_m61 rn_t61 rn_j61_0 = true := by decide +kernel
theorem rn_g61 : ∀ e ∈ rn_m61.2.2.2.2.2, rn_good rn_m61 e := rn_chkM_good rn_k61_0
theorem rn_c61 : rn_cw rn_m61 := rn_chkC_cw (js := [81, 715]) (by decide +kernel)
def rn_j62_0 : List (List Nat) := [[], [], [241], [241], [], [243], [], [], [243], [], [], [722, 635, 634, 87], [], [244], [], [], [244], [], [], [722, 635, 634, 87], [], [245], [], [], [245], [], [], [722, 635, 634, 87], [], [246], [], [], [246], [], [], [722, 635, 634, 87], []]
theorem rn_k62_0 : rn_chkM rn_m62 rn_t62 rn_j62_0 = true := by decide +kernel
theorem rn_g62 : ∀ e ∈ rn_m62.2.2.2.2.2, rn_good rn_m62 e := rn_chkM_good rn_k62_0
theorem rn_c62 : rn_cw rn_m62 := rn_chkC_cw (js := [79, 721]) (by decide +kernel)
def rn_j63_0 : List (List Nat) := [[], [], [384], [], [], [386], [], [727], [388], [], [], [390], [], [], [391], [], [], [393], [], [], [], [], [], [], [397], [], [], [], [], [], [], [728, 730, 13, 81, 731], []]
theorem rn_k63_0 : rn_chkM rn_m63 rn_t63 rn_j63_0 = true := by decide +kernel
theorem rn_g63 : ∀ e ∈ rn_m63.2.2.2.2.2, rn_good rn_m63 e := rn_chkM_good rn_k63_0
theorem rn_c63 : rn_cw rn_m63 := rn_chkC_cw (js := [81, 726]) (by decide +kernel)
def rn_j64_0 : List (List Nat) := [[], [732, 734, 14, 81, 735], [], [374], [216], [], [], [], [], [], [374], [216], [], [], [], [], [], [], [], [], [], [], [], [], [737, 739, 15, 81, 740], [], [], [386], [], [], [], [], [], [374], [216], [], [], [], [], [], [374], [208], [], [380], [], [], [], [381], [741], [], [], [], [], [], [], [], [], [], [], []]
theorem rn_k64_0 : rn_chkM rn_m64 rn_t64_0 rn_j64_0 = true := by decide +kernel
def rn_j64_1 : List (List Nat) := [[743, 745, 16, 81, 746], [], [], [372], [142], [], [], [], [780, 782, 19, 81, 783], [], [], [], [], [785, 787, 20, 81, 788], [], [384], [], [], [386], [], [], [], [], [833, 835, 26, 81, 836], [], [], []]
theorem rn_k64_1 : rn_chkM rn_m64 rn_t64_1 rn_j64_1 = true := by decide +kernel
theorem rn_g64 : ∀ e ∈ rn_m64.2.2.2.2.2, rn_good rn_m64 e := (List.forall_mem_append.mpr ⟨rn_chkM_good rn_k64_0, (rn_chkM_good rn_k64_1)⟩)
theorem rn_c64 : rn_cw rn_m64 := rn_chkC_cw (js := [81, 731]) (by decide +kernel)
def rn_j65_0 : List (List Nat) := [[], [372], [146], [], [374], [212], [], [], [], [], [], [], [], [], [], [], [], [], [], [], [], [], [], [], [], [], [], [381], [], [], [], [], [], [], [], [], [], [], [], [], [372], [134], [], [], [], [], [], [374], [203], [], [], [], [], [], [], [], [374], [], [], [736, 661, 662, 78, 663]]
theorem rn_k65_0 : rn_chkM rn_m65 rn_t65_0 rn_j65_0 = true := by decide +kernel
def rn_j65_1 : List (List Nat) := [[], [], [], [380], [], [], [], [], [], [], [], [], [], [], [], [], []]
theorem rn_k65_1 : rn_chkM rn_m65 rn_t65_1 rn_j65_1 = true := by decide +kernel
theorem rn_g65 : ∀ e ∈ rn_m65.2.2.2.2.2, rn_good rn_m65 e := (List.forall_mem_append.mpr ⟨rn_chkM_good rn_k65_0, (rn_chkM_good rn_k65_1)⟩)
theorem rn_c65 : rn_cw rn_m65 := rn_chkC_cw (js := [81, 735]) (by decide +kernel)
def rn_j66_0 : List (List Nat) := [[], [384], [], [], [], [385], [], [], [], [], []]
theorem rn_k66_0 : rn_chkM rn_m66 rn_t66 rn_j66_0 = true := by decide +kernel
theorem rn_g66 : ∀ e ∈ rn_m66.2.2.2.2.2, rn_good rn_m66 e := rn_chkM_good rn_k66_0
theorem rn_c66 : rn_cw rn_m66 := rn_chkC_cw (js := [81, 740]) (by decide +kernel)
def rn_j67_0 : List (List Nat) := [[], [372], [156], [], [], [], [376], [747, 748, 749, 79, 750], [], [751], [], [], [], [], [], [383], [], [], [], [], [372], [134], [], [], [378], [], [], [], [], [379], [], [], [374], [206], [], [], [], [], [], [], [], [374], [206], [], [], [], [], [], [], [], [377], [], [], [], [], [], [752, 753, 754, 82, 755], [], [], []]
theorem rn_k67_0 : rn_chkM rn_m67 rn_t67_0 rn_j67_0 = true := by decide +kernel
def rn_j67_1 : List (List Nat) := [[], [], [372], [134], [], [], [], [], [], [], [], [372], [134], [], [], [], [333], [], [], [374], [208], [], [], [], [], [], [], [333], [], [], [], [], [], [], [], [], [], [756, 758, 17, 81, 759], [], [], [], [], [], []]
theorem rn_k67_1 : rn_chkM rn_m67 rn_t67_1 rn_j67_1 = true := by decide +kernel
theorem rn_g67 : ∀ e ∈ rn_m67.2.2.2.2.2, rn_good rn_m67 e := (List.forall_mem_append.mpr ⟨rn_chkM_good rn_k67_0, (rn_chkM_good rn_k67_1)⟩)
theorem rn_c67 : rn_cw rn_m67 := rn_chkC_cw (js := [81, 746]) (by decide +kernel)
