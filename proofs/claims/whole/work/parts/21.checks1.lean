def rn_j68_0 : List (List Nat) := [[], [], [], [], [], [], [241], [], [], [243], [], [], [], [], [], [], [], [], [244], [], [], [], [], [245], [], [], [], [], [], [], [], [], [], []]
theorem rn_k68_0 : rn_chkM rn_m68 rn_t68 rn_j68_0 = true := by decide +kernel
theorem rn_g68 : ∀ e ∈ rn_m68.2.2.2.2.2, rn_good rn_m68 e := rn_chkM_good rn_k68_0
theorem rn_c68 : rn_cw rn_m68 := rn_chkC_cw (js := [79, 750]) (by decide +kernel)
def rn_j69_0 : List (List Nat) := [[], [], [330], [], [], [332], [], [], [334], []]
theorem rn_k69_0 : rn_chkM rn_m69 rn_t69 rn_j69_0 = true := by decide +kernel
theorem rn_g69 : ∀ e ∈ rn_m69.2.2.2.2.2, rn_good rn_m69 e := rn_chkM_good rn_k69_0
theorem rn_c69 : rn_cw rn_m69 := rn_chkC_cw (js := [82, 755]) (by decide +kernel)
def rn_j70_0 : List (List Nat) := [[], [], [372], [134], [], [], [], [372], [], [376], [], [], [760, 761, 762, 82, 763], [], [], [], [], [], [372], [134], [], [], [], [], [], [], [], [], [372], [167], [], [], [], [], [], [], [], [], [], [], [], [], [], [], [], [], [], [], [], [], [374], [208], [], [], [], [], [], [], [756, 758, 17, 81, 759], []]
theorem rn_k70_0 : rn_chkM rn_m70 rn_t70_0 rn_j70_0 = true := by decide +kernel
def rn_j70_1 : List (List Nat) := [[], []]
theorem rn_k70_1 : rn_chkM rn_m70 rn_t70_1 rn_j70_1 = true := by decide +kernel
theorem rn_g70 : ∀ e ∈ rn_m70.2.2.2.2.2, rn_good rn_m70 e := (List.forall_mem_append.mpr ⟨rn_chkM_good rn_k70_0, (rn_chkM_good rn_k70_1)⟩)
theorem rn_c70 : rn_cw rn_m70 := rn_chkC_cw (js := [81, 759]) (by decide +kernel)
def rn_j71_0 : List (List Nat) := [[], [], [], [131], [], [], [], [], [], [], [], [], [], [], [], [], [], [131], [], [], [], [], [], [], [], [131], [], [], [], [], [], [], [], [], [764, 674, 675, 77, 676], [], [], [], [], [330], [], [765, 682, 77, 683], [], [], [], [], [], [], [131], [], [], [], [], [], [], [], [], [], [], []]
theorem rn_k71_0 : rn_chkM rn_m71 rn_t71_0 rn_j71_0 = true := by decide +kernel
def rn_j71_1 : List (List Nat) := [[], [], [], [], [131], [], [], [], [], [], [], [], [], [], [], [], [], [], [], [], [], [], [766, 767, 82, 768], [], [], [], [], [], [], [], [], [], [], [], [], [], [], [], [], [], [], [], [], [], [], [769, 770, 771, 79, 772], [], [], [], [], [], [], [], [], [], [], [], [], [], []]
theorem rn_k71_1 : rn_chkM rn_m71 rn_t71_1 rn_j71_1 = true := by decide +kernel
def rn_j71_2 : List (List Nat) := [[773, 678, 679, 77, 680], [], [], [], [], [], [], [], [], [], [], [774, 776, 18, 82, 777], [], [], [], [], [], [344], [], [], [], [], [], [], [], [346], [], [], [], [], [], [], [], [348], [], [], [348], [], [], [], [779, 551, 86, 552], [], []]
theorem rn_k71_2 : rn_chkM rn_m71 rn_t71_2 rn_j71_2 = true := by decide +kernel
theorem rn_g71 : ∀ e ∈ rn_m71.2.2.2.2.2, rn_good rn_m71 e := (List.forall_mem_append.mpr ⟨rn_chkM_good rn_k71_0, (List.forall_mem_append.mpr ⟨rn_chkM_good rn_k71_1, (rn_chkM_good rn_k71_2)⟩)⟩)
theorem rn_c71 : rn_cw rn_m71 := rn_chkC_cw (js := [82, 763]) (by decide +kernel)
def rn_j72_0 : List (List Nat) := [[], [], [], [], [], [154], [], [], [], [], [], [], [], [], [], [], [], [], [], [], [], [], [154], [], [], [], [149], [], [], [], [149], [], [], [], [], [149], [], [], [], [], []]
theorem rn_k72_0 : rn_chkM rn_m72 rn_t72 rn_j72_0 = true := by decide +kernel
theorem rn_g72 : ∀ e ∈ rn_m72.2.2.2.2.2, rn_good rn_m72 e := rn_chkM_good rn_k72_0
theorem rn_c72 : rn_cw rn_m72 := rn_chkC_cw (js := [82, 768]) (by decide +kernel)
def rn_j73_0 : List (List Nat) := [[], [], [], [], [], [], [241], [], [], [243], [], [], [], [], [245], [], [], [], [], [], [244], [], [], [], [], [], [], [], [], [], [], [], [], [], []]
theorem rn_k73_0 : rn_chkM rn_m73 rn_t73 rn_j73_0 = true := by decide +kernel
theorem rn_g73 : ∀ e ∈ rn_m73.2.2.2.2.2, rn_good rn_m73 e := rn_chkM_good rn_k73_0
theorem rn_c73 : rn_cw rn_m73 := rn_chkC_cw (js := [79, 772]) (by decide +kernel)
def rn_j74_0 : List (List Nat) := [[], [], [], [], [334], [], [], [336], [], [], [], [], [], [338], [], [], [], [], [], [340], [], [], [], [], [], [342], [], [], [], [], [], [], [], [], [], [334], [], [], [], [], [], [336], [], [334], [], [], [], [338], [], [334], [], [], [], [340], [], [334], [], [], [], [342]]
theorem rn_k74_0 : rn_chkM rn_m74 rn_t74_0 rn_j74_0 = true := by decide +kernel
def rn_j74_1 : List (List Nat) := [[], [334], [], [], [], [344], [], [334], [], [], [], [346], [], [334], [], [], [], [348], [], [334], [778], [], [], [], [334], [], [], [334], [], [334], [], [], []]
theorem rn_k74_1 : rn_chkM rn_m74 rn_t74_1 rn_j74_1 = true := by decide +kernel
theorem rn_g74 : ∀ e ∈ rn_m74.2.2.2.2.2, rn_good rn_m74 e := (List.forall_mem_append.mpr ⟨rn_chkM_good rn_k74_0, (rn_chkM_good rn_k74_1)⟩)
theorem rn_c74 : rn_cw rn_m74 := rn_chkC_cw (js := [82, 777]) (by decide +kernel)
def rn_j75_0 : List (List Nat) := [[], [372], [162], [], [], [372], [170], [], [], [], [], [372], [170], [], [], [], [], [], [372], [142], [], [], [372], [], [784, 678, 679, 77, 680], [], [], [], [], []]
theorem rn_k75_0 : rn_chkM rn_m75 rn_t75 rn_j75_0 = true := by decide +kernel
theorem rn_g75 : ∀ e ∈ rn_m75.2.2.2.2.2, rn_good rn_m75 e := rn_chkM_good rn_k75_0
theorem rn_c75 : rn_cw rn_m75 := rn_chkC_cw (js := [81, 783]) (by decide +kernel)
def rn_j76_0 : List (List Nat) := [[], [], [], [], [], [], [], [372], [134], [], [], [379], [], [], [], [], [372], [162], [], [], [], [], [], [], [], [], [379], [], [], [], [], [], [], [], [], [], [378], [], [], [], [379], [], [], [], [], [], [], [], [], [789, 791, 21, 81, 792], [], [379], [], [], [], [], [], [], [], []]
theorem rn_k76_0 : rn_chkM rn_m76 rn_t76_0 rn_j76_0 = true := by decide +kernel
def rn_j76_1 : List (List Nat) := [[]]
theorem rn_k76_1 : rn_chkM rn_m76 rn_t76_1 rn_j76_1 = true := by decide +kernel
theorem rn_g76 : ∀ e ∈ rn_m76.2.2.2.2.2, rn_good rn_m76 e := (List.forall_mem_append.mpr ⟨rn_chkM_good rn_k76_0, (rn_chkM_good rn_k76_1)⟩)
theorem rn_c76 : rn_cw rn_m76 := rn_chkC_cw (js := [81, 788]) (by decide +kernel)
def rn_j77_0 : List (List Nat) := [[], [], [], [], [], [377], [], [], [], [], [], [], [], [335], [], [], [337], [], [], [], [], [], [339], [], [], [], [793, 794, 81, 795], [], [], [], [], [], [796, 798, 22, 81, 799], [], [], [], [], [384], [], [], [], [], [], [800, 801, 88, 802], [], [], [], [], [341], [], [], [], [], [], [], [343], [], [], [], []]
theorem rn_k77_0 : rn_chkM rn_m77 rn_t77_0 rn_j77_0 = true := by decide +kernel
def rn_j77_1 : List (List Nat) := [[376], [], [], [], [333], [], [383], [], [806, 807, 808, 79, 809], [], [], [], [384], [], [], [], [810, 811, 81, 812], [], [], [], [], [], [], [], [], [], [813, 815, 23, 81, 816], [], [], [], [382], [], [], [], [], [], [], [], [], [], [], [384], [], [], [], [817, 819, 24, 81, 820], [], [], [], [], [], [], [], [], [824, 826, 25, 81, 827], [], [], [], [383], []]
theorem rn_k77_1 : rn_chkM rn_m77 rn_t77_1 rn_j77_1 = true := by decide +kernel
def rn_j77_2 : List (List Nat) := [[333], [], [383], [], [], [], [], [], [372], [162], [], [], [], [], [372], [], [829, 830, 831, 77, 832], [], [], [], [], [], [], [785, 787, 20, 81, 788], [], [], [383], [], [333], [], [], [], [383], [], [], []]
theorem rn_k77_2 : rn_chkM rn_m77 rn_t77_2 rn_j77_2 = true := by decide +kernel
theorem rn_g77 : ∀ e ∈ rn_m77.2.2.2.2.2, rn_good rn_m77 e := (List.forall_mem_append.mpr ⟨rn_chkM_good rn_k77_0, (List.forall_mem_append.mpr ⟨rn_chkM_good rn_k77_1, (rn_chkM_good rn_k77_2)⟩)⟩)
theorem rn_c77 : rn_cw rn_m77 := rn_chkC_cw (js := [81, 792]) (by decide +kernel)
def rn_j78_0 : List (List Nat) := [[], [], [], [], [], [], [], [], [], [], [], [], [], []]
theorem rn_k78_0 : rn_chkM rn_m78 rn_t78 rn_j78_0 = true := by decide +kernel
theorem rn_g78 : ∀ e ∈ rn_m78.2.2.2.2.2, rn_good rn_m78 e := rn_chkM_good rn_k78_0
theorem rn_c78 : rn_cw rn_m78 := rn_chkC_cw (js := [81, 795]) (by decide +kernel)
def rn_j79_0 : List (List Nat) := [[], [], [], [372], [170], [], [], [], [372], [170], [], [], [], [], [372], [162], [], [], [], [], [], [], [], [], [], [], [], [], [], [], [379], [], [], [], [], [], [], []]
theorem rn_k79_0 : rn_chkM rn_m79 rn_t79 rn_j79_0 = true := by decide +kernel
theorem rn_g79 : ∀ e ∈ rn_m79.2.2.2.2.2, rn_good rn_m79 e := rn_chkM_good rn_k79_0
theorem rn_c79 : rn_cw rn_m79 := rn_chkC_cw (js := [81, 799]) (by decide +kernel)
def rn_j80_0 : List (List Nat) := [[], [], [], [], [803], [], [], [], [], [804], [], [], [], [], [804], [], [], [], [], [], [], [], [], [805], [], [], [], [], [], [], [], [], [], [], [], [], [], [], [], [], [], []]
theorem rn_k80_0 : rn_chkM rn_m80 rn_t80 rn_j80_0 = true := by decide +kernel
theorem rn_g80 : ∀ e ∈ rn_m80.2.2.2.2.2, rn_good rn_m80 e := rn_chkM_good rn_k80_0
theorem rn_c80 : rn_cw rn_m80 := rn_chkC_cw (js := [88, 802]) (by decide +kernel)
def rn_j81_0 : List (List Nat) := [[], [], [], [], [], [], [241], [], [], [], [], [243], [], [], [], [], [245], [], [], [], [], [], [244], [], [], [], [], [], [], [], [], [], [], [], [244], [], [], [], [], [], [], [], [], [245], [], [], [], [], [], [], [], [], [], [], [], [], [246], [], [], []]
theorem rn_k81_0 : rn_chkM rn_m81 rn_t81_0 rn_j81_0 = true := by decide +kernel
def rn_j81_1 : List (List Nat) := [[], [], [], [], [244], [], [], [], [], [245], [], [], [], [], [], [], [], [], [], [], [], [], [], [], [], [], [], [], [], [], [], [], [], []]
theorem rn_k81_1 : rn_chkM rn_m81 rn_t81_1 rn_j81_1 = true := by decide +kernel
theorem rn_g81 : ∀ e ∈ rn_m81.2.2.2.2.2, rn_good rn_m81 e := (List.forall_mem_append.mpr ⟨rn_chkM_good rn_k81_0, (rn_chkM_good rn_k81_1)⟩)
theorem rn_c81 : rn_cw rn_m81 := rn_chkC_cw (js := [79, 809]) (by decide +kernel)
def rn_j82_0 : List (List Nat) := [[], [], [800, 801, 88, 802], [], [], [], []]
theorem rn_k82_0 : rn_chkM rn_m82 rn_t82 rn_j82_0 = true := by decide +kernel
theorem rn_g82 : ∀ e ∈ rn_m82.2.2.2.2.2, rn_good rn_m82 e := rn_chkM_good rn_k82_0
theorem rn_c82 : rn_cw rn_m82 := rn_chkC_cw (js := [81, 812]) (by decide +kernel)
def rn_j83_0 : List (List Nat) := [[], [384], [], [], [], [], [385], [], [], [], [], [], [], [], [], [], [], [384], [], [], [], [399], [], [], [], [], [], [], [], [], [], [372], [134], [], [], [], [], [], [], [], [], [], [], [], [399], [], [], [], [], [], [], [], [], [], [], []]
theorem rn_k83_0 : rn_chkM rn_m83 rn_t83 rn_j83_0 = true := by decide +kernel
theorem rn_g83 : ∀ e ∈ rn_m83.2.2.2.2.2, rn_good rn_m83 e := rn_chkM_good rn_k83_0
theorem rn_c83 : rn_cw rn_m83 := rn_chkC_cw (js := [81, 816]) (by decide +kernel)
def rn_j84_0 : List (List Nat) := [[], [], [], [], [], [], [], [], [], [372], [142], [], [], [377], [], [382], [], [], [], [], [], [], [], [382], [], [], [], [], [], [], [], [345], [], [], [], [], [], [], [], [], [372], [134], [], [], [], [349], [], [], [], [], [], [], [], [390], [], [347], [], [], [], [390]]
theorem rn_k84_0 : rn_chkM rn_m84 rn_t84_0 rn_j84_0 = true := by decide +kernel
def rn_j84_1 : List (List Nat) := [[], [], [391], [], [], [], [], [], [337], [], [], [], [], [], [391], [], [], [393], [], [], [], [], [], [331], [], [], [], [393], [], [], [], [], [386], [], [], [], [], [], [], [388], [], [821, 822, 86, 823], [388], [], [], [386], [], [], [386], []]
theorem rn_k84_1 : rn_chkM rn_m84 rn_t84_1 rn_j84_1 = true := by decide +kernel
theorem rn_g84 : ∀ e ∈ rn_m84.2.2.2.2.2, rn_good rn_m84 e := (List.forall_mem_append.mpr ⟨rn_chkM_good rn_k84_0, (rn_chkM_good rn_k84_1)⟩)
theorem rn_c84 : rn_cw rn_m84 := rn_chkC_cw (js := [81, 820]) (by decide +kernel)
def rn_j85_0 : List (List Nat) := [[], [], [], [], [], [], [], []]
theorem rn_k85_0 : rn_chkM rn_m85 rn_t85 rn_j85_0 = true := by decide +kernel
theorem rn_g85 : ∀ e ∈ rn_m85.2.2.2.2.2, rn_good rn_m85 e := rn_chkM_good rn_k85_0
theorem rn_c85 : rn_cw rn_m85 := rn_chkC_cw (js := [86, 823]) (by decide +kernel)
def rn_j86_0 : List (List Nat) := [[], [384], [], [], [], [], [385], [], [], [399], [], [], [399], [], [], [], [828, 551, 86, 552], [], [], [], [], [], [372], [134], [], [], [], [], [], [], [], [], [], [], [399], [], [], [], [], [399], [], [], [], [], [], [828, 551, 86, 552], [], [], [], []]
theorem rn_k86_0 : rn_chkM rn_m86 rn_t86 rn_j86_0 = true := by decide +kernel
theorem rn_g86 : ∀ e ∈ rn_m86.2.2.2.2.2, rn_good rn_m86 e := rn_chkM_good rn_k86_0
theorem rn_c86 : rn_cw rn_m86 := rn_chkC_cw (js := [81, 827]) (by decide +kernel)
def rn_j87_0 : List (List Nat) := [[], [], [], [], [], [], [], [130], [], [], []]
theorem rn_k87_0 : rn_chkM rn_m87 rn_t87 rn_j87_0 = true := by decide +kernel
theorem rn_g87 : ∀ e ∈ rn_m87.2.2.2.2.2, rn_good rn_m87 e := rn_chkM_good rn_k87_0
theorem rn_c87 : rn_cw rn_m87 := rn_chkC_cw (js := [77, 832]) (by decide +kernel)
def rn_j88_0 : List (List Nat) := [[], [], [], [], [374], [216], [], [], [], [], [], [397], [], [], [], [], [], [374], [208], [], [380], [], [], [], [], [], [], [], [], []]
theorem rn_k88_0 : rn_chkM rn_m88 rn_t88 rn_j88_0 = true := by decide +kernel
theorem rn_g88 : ∀ e ∈ rn_m88.2.2.2.2.2, rn_good rn_m88 e := rn_chkM_good rn_k88_0
theorem rn_c88 : rn_cw rn_m88 := rn_chkC_cw (js := [81, 836]) (by decide +kernel)
def rn_j89_0 : List (List Nat) := [[], [], [841, 843, 27, 74, 844], [], [], [], [], [], [], [708, 710, 12, 74, 711], [], [485], [], [845, 846, 847, 81, 848], []]
theorem rn_k89_0 : rn_chkM rn_m89 rn_t89 rn_j89_0 = true := by decide +kernel
theorem rn_g89 : ∀ e ∈ rn_m89.2.2.2.2.2, rn_good rn_m89 e := rn_chkM_good rn_k89_0
theorem rn_c89 : rn_cw rn_m89 := rn_chkC_cw (js := [74, 840]) (by decide +kernel)
def rn_j90_0 : List (List Nat) := [[], [], [], [], [], [], [], [], [482], [296], [200], [], [], [], [], [482], [293], [], [669, 670, 671, 77, 672], [], [], [], [], []]
theorem rn_k90_0 : rn_chkM rn_m90 rn_t90 rn_j90_0 = true := by decide +kernel
theorem rn_g90 : ∀ e ∈ rn_m90.2.2.2.2.2, rn_good rn_m90 e := rn_chkM_good rn_k90_0
theorem rn_c90 : rn_cw rn_m90 := rn_chkC_cw (js := [74, 844]) (by decide +kernel)
def rn_j91_0 : List (List Nat) := [[], [390], [], [], [], [], [], [], [], []]
theorem rn_k91_0 : rn_chkM rn_m91 rn_t91 rn_j91_0 = true := by decide +kernel
theorem rn_g91 : ∀ e ∈ rn_m91.2.2.2.2.2, rn_good rn_m91 e := rn_chkM_good rn_k91_0
theorem rn_c91 : rn_cw rn_m91 := rn_chkC_cw (js := [81, 848]) (by decide +kernel)
def rn_j92_0 : List (List Nat) := [[], [], [841, 843, 27, 74, 844], [], [], [], [], [], [], [708, 710, 12, 74, 711], [], [485], [], [845, 846, 847, 81, 848], [], [], [], [], [], [], [], [], [], [], [], [], [], [], [], [], []]
theorem rn_k92_0 : rn_chkM rn_m92 rn_t92 rn_j92_0 = true := by decide +kernel
theorem rn_g92 : ∀ e ∈ rn_m92.2.2.2.2.2, rn_good rn_m92 e := rn_chkM_good rn_k92_0
theorem rn_c92 : rn_cw rn_m92 := rn_chkC_cw (js := [74, 852]) (by decide +kernel)
def rn_j93_0 : List (List Nat) := [[], [659, 623, 74, 624], [], [], [], [], [], [], [], [], [], [482], [296], [200], [], [], [], [], [], [482], [293], [136], [], [], [], [482], [296], [202], [], [], [], [], [], [], [482], [296], [], [], [660, 661, 662, 78, 663], [], [], [], [], [], [708, 710, 12, 74, 711], [], [485], [398], [], [482], [296], [], [], [857, 858, 859, 78, 860], [], []]
theorem rn_k93_0 : rn_chkM rn_m93 rn_t93 rn_j93_0 = true := by decide +kernel
theorem rn_g93 : ∀ e ∈ rn_m93.2.2.2.2.2, rn_good rn_m93 e := rn_chkM_good rn_k93_0
theorem rn_c93 : rn_cw rn_m93 := rn_chkC_cw (js := [74, 856]) (by decide +kernel)
def rn_j94_0 : List (List Nat) := [[], [], [], [], [], [], [], [], [], [], [], [201], [], [], [], [], [], [], [], [], [], [], [], [], [], [861, 661, 662, 78, 663], [], [], [], [], [], [], [], [], [], [862, 551, 86, 552], []]
theorem rn_k94_0 : rn_chkM rn_m94 rn_t94 rn_j94_0 = true := by decide +kernel
theorem rn_g94 : ∀ e ∈ rn_m94.2.2.2.2.2, rn_good rn_m94 e := rn_chkM_good rn_k94_0
theorem rn_c94 : rn_cw rn_m94 := rn_chkC_cw (js := [78, 860]) (by decide +kernel)
def rn_j95_0 : List (List Nat) := [[], [867, 868, 74, 869], [], [], [], [], [], [], [], [], [], [482], [296], [200], [], [], [], [], [], [482], [293], [144], [], [], [], [], [708, 710, 12, 74, 711], [], [], [], [485], [392], [], [], [485], [394], [], [], [], [], [], [], []]
theorem rn_k95_0 : rn_chkM rn_m95 rn_t95 rn_j95_0 = true := by decide +kernel
theorem rn_g95 : ∀ e ∈ rn_m95.2.2.2.2.2, rn_good rn_m95 e := rn_chkM_good rn_k95_0
theorem rn_c95 : rn_cw rn_m95 := rn_chkC_cw (js := [74, 866]) (by decide +kernel)
def rn_j96_0 : List (List Nat) := [[], [], [], [], [], [], [], [], []]
theorem rn_k96_0 : rn_chkM rn_m96 rn_t96 rn_j96_0 = true := by decide +kernel
theorem rn_g96 : ∀ e ∈ rn_m96.2.2.2.2.2, rn_good rn_m96 e := rn_chkM_good rn_k96_0
theorem rn_c96 : rn_cw rn_m96 := rn_chkC_cw (js := [74, 869]) (by decide +kernel)
def rn_j97_0 : List (List Nat) := [[], [], [], [], [], [], [], [], [], [482], [296], [200], [], [], [], [], [482], [293], [601, 558, 559, 77, 560], [], [], [], [], [], [], [], [708, 710, 12, 74, 711], [], [485], [387], [], [], [], [], [], [], [485], [389], [], [], [], [], [], [], [], [], [], [], [], []]
theorem rn_k97_0 : rn_chkM rn_m97 rn_t97 rn_j97_0 = true := by decide +kernel
theorem rn_g97 : ∀ e ∈ rn_m97.2.2.2.2.2, rn_good rn_m97 e := rn_chkM_good rn_k97_0
theorem rn_c97 : rn_cw rn_m97 := rn_chkC_cw (js := [74, 873]) (by decide +kernel)
def rn_j98_0 : List (List Nat) := [[], [], [], [], [], [], [], [], [], [482], [296], [200], [], [], [], [], [], [482], [293], [136], [], [], [], [], [489], [], [], [], [], [485], [], [482], [712, 713, 714, 81, 715], [], [485], [878, 879, 880, 81, 881], [], [], [489], [], [], [489], [], [485], [400], [], [], [], [], [], [], [], [], [], [], [], []]
theorem rn_k98_0 : rn_chkM rn_m98 rn_t98 rn_j98_0 = true := by decide +kernel
theorem rn_g98 : ∀ e ∈ rn_m98.2.2.2.2.2, rn_good rn_m98 e := rn_chkM_good rn_k98_0
theorem rn_c98 : rn_cw rn_m98 := rn_chkC_cw (js := [74, 877]) (by decide +kernel)
def rn_j99_0 : List (List Nat) := [[], [], [384], [], [], [], [], [], [], [399], [], [], [], [372], [134], [], [], [], [], [], [], [], [], [728, 730, 13, 81, 731], []]
theorem rn_k99_0 : rn_chkM rn_m99 rn_t99 rn_j99_0 = true := by decide +kernel
theorem rn_g99 : ∀ e ∈ rn_m99.2.2.2.2.2, rn_good rn_m99 e := rn_chkM_good rn_k99_0
theorem rn_c99 : rn_cw rn_m99 := rn_chkC_cw (js := [81, 881]) (by decide +kernel)
def rn_j100_0 : List (List Nat) := [[], [482], [296], [200], [], [], [], [], [489], [], [], [], [], [485], [], [482], [712, 713, 714, 81, 715], [], [485], [886, 887, 888, 81, 889], [], [], [489], [], [], [489], [], [485], [396], []]
theorem rn_k100_0 : rn_chkM rn_m100 rn_t100 rn_j100_0 = true := by decide +kernel
theorem rn_g100 : ∀ e ∈ rn_m100.2.2.2.2.2, rn_good rn_m100 e := rn_chkM_good rn_k100_0
theorem rn_c100 : rn_cw rn_m100 := rn_chkC_cw (js := [74, 885]) (by decide +kernel)
def rn_j101_0 : List (List Nat) := [[], [], [384], [], [], [385], [], [728, 730, 13, 81, 731], [], [], [385], [], [], [], [], [], [385], [], [], [395], []]
theorem rn_k101_0 : rn_chkM rn_m101 rn_t101 rn_j101_0 = true := by decide +kernel
theorem rn_g101 : ∀ e ∈ rn_m101.2.2.2.2.2, rn_good rn_m101 e := rn_chkM_good rn_k101_0
theorem rn_c101 : rn_cw rn_m101 := rn_chkC_cw (js := [81, 889]) (by decide +kernel)
def rn_j102_0 : List (List Nat) := [[], [482], [296], [200], [], [], [], [], [489], [], [], [], [], [], [894, 896, 28, 74, 897], [490], [], [], [489], [], [], [489], [], [490], []]
theorem rn_k102_0 : rn_chkM rn_m102 rn_t102 rn_j102_0 = true := by decide +kernel
theorem rn_g102 : ∀ e ∈ rn_m102.2.2.2.2.2, rn_good rn_m102 e := rn_chkM_good rn_k102_0
theorem rn_c102 : rn_cw rn_m102 := rn_chkC_cw (js := [74, 893]) (by decide +kernel)
def rn_j103_0 : List (List Nat) := [[], [], [], [], [], [], [482], [293], [136], [], [], [485], [], [482], [712, 713, 714, 81, 715], [], [485], [375], [], [482], [293], [136], [], [898, 899, 900, 78, 901], [], [485], [902, 903, 904, 81, 905], [], [], [], [], [], [], [], [], [], [], []]
theorem rn_k103_0 : rn_chkM rn_m103 rn_t103 rn_j103_0 = true := by decide +kernel
theorem rn_g103 : ∀ e ∈ rn_m103.2.2.2.2.2, rn_good rn_m103 e := rn_chkM_good rn_k103_0
theorem rn_c103 : rn_cw rn_m103 := rn_chkC_cw (js := [74, 897]) (by decide +kernel)
def rn_j104_0 : List (List Nat) := [[], [], [], [], [], [], [204], [], [], [], [], [], [], [], [], [], [], [], [], [], [], [], [], [], [], [], [], [], [], [207], [], [], [], [], [], [], [207], [], [], [], [], [207], [], [], [], [], [], [], [207], [], [], [], [], [], [], [], [], [], [], []]
theorem rn_k104_0 : rn_chkM rn_m104 rn_t104_0 rn_j104_0 = true := by decide +kernel
def rn_j104_1 : List (List Nat) := [[], [], [], [], [], [], []]
theorem rn_k104_1 : rn_chkM rn_m104 rn_t104_1 rn_j104_1 = true := by decide +kernel
theorem rn_g104 : ∀ e ∈ rn_m104.2.2.2.2.2, rn_good rn_m104 e := (List.forall_mem_append.mpr ⟨rn_chkM_good rn_k104_0, (rn_chkM_good rn_k104_1)⟩)
theorem rn_c104 : rn_cw rn_m104 := rn_chkC_cw (js := [78, 901]) (by decide +kernel)
def rn_j105_0 : List (List Nat) := [[], [], [384], [], [], [385], [], [728, 730, 13, 81, 731], [], [385], [], [], [], [], []]
theorem rn_k105_0 : rn_chkM rn_m105 rn_t105 rn_j105_0 = true := by decide +kernel
theorem rn_g105 : ∀ e ∈ rn_m105.2.2.2.2.2, rn_good rn_m105 e := rn_chkM_good rn_k105_0
theorem rn_c105 : rn_cw rn_m105 := rn_chkC_cw (js := [81, 905]) (by decide +kernel)
def rn_j106_0 : List (List Nat) := [[], [], [], [], [], [], [], [], [], [482], [296], [200], [], [], [], [], [489], [], [], [], [], [], [910, 912, 29, 74, 913], [491], [], [], [489], [], [], [489], [], [], [], [491], [916, 801, 88, 802], [], [], [], [], [], [], [], [], [], [491], [], [], [], [], [], [], [], [], [], [], [], [], [], [], []]
theorem rn_k106_0 : rn_chkM rn_m106 rn_t106 rn_j106_0 = true := by decide +kernel
theorem rn_g106 : ∀ e ∈ rn_m106.2.2.2.2.2, rn_good rn_m106 e := rn_chkM_good rn_k106_0
theorem rn_c106 : rn_cw rn_m106 := rn_chkC_cw (js := [74, 909]) (by decide +kernel)
def rn_j107_0 : List (List Nat) := [[], [], [], [], [], [], [], [], [], [], [], [], [], [], [], [], [], [914], [], [], [914], [], [], [], [], [], [], [485], [], [482], [712, 713, 714, 81, 715], [], [485], [373], [], [152], [], [485], [373], [], [158], [], [485], [373], [], [164], [], [485], [902, 903, 904, 81, 905], [], [], [], [], [], [], [], [], [], [], []]
theorem rn_k107_0 : rn_chkM rn_m107 rn_t107_0 rn_j107_0 = true := by decide +kernel
def rn_j107_1 : List (List Nat) := [[], [], [], [], [], [], [], [], [], [], [], [], [], [], [], []]
theorem rn_k107_1 : rn_chkM rn_m107 rn_t107_1 rn_j107_1 = true := by decide +kernel
theorem rn_g107 : ∀ e ∈ rn_m107.2.2.2.2.2, rn_good rn_m107 e := (List.forall_mem_append.mpr ⟨rn_chkM_good rn_k107_0, (rn_chkM_good rn_k107_1)⟩)
theorem rn_c107 : rn_cw rn_m107 := rn_chkC_cw (js := [74, 913]) (by decide +kernel)
def rn_j108_0 : List (List Nat) := [[], [659, 623, 74, 624], [], [], [921, 922, 74, 923], [], [], [924, 925, 74, 926], [], [], [], [], [482], [293], [127], [], [], [], [], [], [482], [293], [136], [], [], [], [], [487], [], [], [], [], [], [482], [293], [601, 558, 559, 77, 560], [927, 928, 929, 84, 930], [], [], [], [], [], [], [484], [301], [], [], [], [], [487], [], [], [], [], [482], [293], [601, 558, 559, 77, 560], [931, 932, 933, 80, 934], [], []]
theorem rn_k108_0 : rn_chkM rn_m108 rn_t108_0 rn_j108_0 = true := by decide +kernel
def rn_j108_1 : List (List Nat) := [[482], [293], [935, 936, 937, 80, 938], [], [], [], [], [], [], [482], [293], [941, 942, 943, 80, 944], [], [486], [], [482], [293], [], [948, 949, 950, 83, 951], [], [], [], [], [], [482], [301], [], [968, 969, 970, 80, 971], [], []]
theorem rn_k108_1 : rn_chkM rn_m108 rn_t108_1 rn_j108_1 = true := by decide +kernel
theorem rn_g108 : ∀ e ∈ rn_m108.2.2.2.2.2, rn_good rn_m108 e := (List.forall_mem_append.mpr ⟨rn_chkM_good rn_k108_0, (rn_chkM_good rn_k108_1)⟩)
theorem rn_c108 : rn_cw rn_m108 := rn_chkC_cw (js := [74, 920]) (by decide +kernel)
def rn_j109_0 : List (List Nat) := [[], [], [], [], [], [], [], [], []]
theorem rn_k109_0 : rn_chkM rn_m109 rn_t109 rn_j109_0 = true := by decide +kernel
theorem rn_g109 : ∀ e ∈ rn_m109.2.2.2.2.2, rn_good rn_m109 e := rn_chkM_good rn_k109_0
theorem rn_c109 : rn_cw rn_m109 := rn_chkC_cw (js := [74, 923]) (by decide +kernel)
def rn_j110_0 : List (List Nat) := [[], [], [], [], [], [], [], [], []]
theorem rn_k110_0 : rn_chkM rn_m110 rn_t110 rn_j110_0 = true := by decide +kernel
theorem rn_g110 : ∀ e ∈ rn_m110.2.2.2.2.2, rn_good rn_m110 e := rn_chkM_good rn_k110_0
theorem rn_c110 : rn_cw rn_m110 := rn_chkC_cw (js := [74, 926]) (by decide +kernel)
def rn_j111_0 : List (List Nat) := [[], [465], [], [], [], [], [467], [], [], [], [], [], [], [], [], [468], [], [], [], [], [], [], []]
theorem rn_k111_0 : rn_chkM rn_m111 rn_t111 rn_j111_0 = true := by decide +kernel
theorem rn_g111 : ∀ e ∈ rn_m111.2.2.2.2.2, rn_good rn_m111 e := rn_chkM_good rn_k111_0
theorem rn_c111 : rn_cw rn_m111 := rn_chkC_cw (js := [84, 930]) (by decide +kernel)
def rn_j112_0 : List (List Nat) := [[], [], [264], [], [], [267], [], [], [], [], [], [], [], [], [], [269], [], [], [471], [], [], [], [], [], [], [], [], [], [], [], [], [], [276], [], [], [], [], [], []]
theorem rn_k112_0 : rn_chkM rn_m112 rn_t112 rn_j112_0 = true := by decide +kernel
theorem rn_g112 : ∀ e ∈ rn_m112.2.2.2.2.2, rn_good rn_m112 e := rn_chkM_good rn_k112_0
theorem rn_c112 : rn_cw rn_m112 := rn_chkC_cw (js := [80, 934]) (by decide +kernel)
def rn_j113_0 : List (List Nat) := [[], [], [], [], [], [], [939, 558, 559, 77, 560], [], [], [], [269], [], [], [940, 670, 671, 77, 672], [], [], [], [269], [], [], [], [], [], [], [], [], [], [], [], [269], [], [], [], [], [], [], [], [], []]
theorem rn_k113_0 : rn_chkM rn_m113 rn_t113 rn_j113_0 = true := by decide +kernel
theorem rn_g113 : ∀ e ∈ rn_m113.2.2.2.2.2, rn_good rn_m113 e := rn_chkM_good rn_k113_0
theorem rn_c113 : rn_cw rn_m113 := rn_chkC_cw (js := [80, 938]) (by decide +kernel)
def rn_j114_0 : List (List Nat) := [[], [267], [], [], [], [], [], [], [], [140], [], [], [], [], [], [], [], [], [], [135], [], [], [271], [], [], [], [], [], [], [], [], [], [269], [], [], [], [], [945, 674, 675, 77, 676], [], [], [], [946, 678, 679, 77, 680], [], [], [], [], [947, 682, 77, 683], [], [], [], [], [], [135], [], [], [274], [], [], [], []]
theorem rn_k114_0 : rn_chkM rn_m114 rn_t114_0 rn_j114_0 = true := by decide +kernel
def rn_j114_1 : List (List Nat) := [[], [], [], [], [160], [], [], [], [], [], [946, 678, 679, 77, 680], [], [], [], [135], [], [], [], [], []]
theorem rn_k114_1 : rn_chkM rn_m114 rn_t114_1 rn_j114_1 = true := by decide +kernel
theorem rn_g114 : ∀ e ∈ rn_m114.2.2.2.2.2, rn_good rn_m114 e := (List.forall_mem_append.mpr ⟨rn_chkM_good rn_k114_0, (rn_chkM_good rn_k114_1)⟩)
theorem rn_c114 : rn_cw rn_m114 := rn_chkC_cw (js := [80, 944]) (by decide +kernel)
def rn_j115_0 : List (List Nat) := [[], [], [], [], [952, 954, 30, 83, 955], [], [], [], [], [], [], [956, 558, 559, 77, 560], [], [], [272], [], [], [], [], [], [270], [], [], [], [], [448], [], [], [957, 958, 959, 77, 960], [], [], [], [], [448], [], [], [], [], [], [270], [], [], [], [], [], [], [], [], [], [], [], [], [964, 965, 83, 966], [], [], [], [], []]
theorem rn_k115_0 : rn_chkM rn_m115 rn_t115 rn_j115_0 = true := by decide +kernel
theorem rn_g115 : ∀ e ∈ rn_m115.2.2.2.2.2, rn_good rn_m115 e := rn_chkM_good rn_k115_0
theorem rn_c115 : rn_cw rn_m115 := rn_chkC_cw (js := [83, 951]) (by decide +kernel)
def rn_j116_0 : List (List Nat) := [[], [], [], [], [], [], [448], [], [], [], [], [], [], [], [], [], [956, 558, 559, 77, 560], [], [], [448], [], [272], [], [], [], [], [], [], [270], [], [], [], [], [], [], [], []]
theorem rn_k116_0 : rn_chkM rn_m116 rn_t116 rn_j116_0 = true := by decide +kernel
theorem rn_g116 : ∀ e ∈ rn_m116.2.2.2.2.2, rn_good rn_m116 e := rn_chkM_good rn_k116_0
theorem rn_c116 : rn_cw rn_m116 := rn_chkC_cw (js := [83, 955]) (by decide +kernel)
def rn_j117_0 : List (List Nat) := [[], [], [], [], [], [961, 962, 77, 963], [], [], [], [], [153], [], [], [], [], [], [], [], [], [], [], [], [], [], [], [], [], [], [], [153], [], [], [], [148], [], [], [], [148], [], [], [], [], [148], [], [], [], [], [], [], [], [], []]
theorem rn_k117_0 : rn_chkM rn_m117 rn_t117 rn_j117_0 = true := by decide +kernel
theorem rn_g117 : ∀ e ∈ rn_m117.2.2.2.2.2, rn_good rn_m117 e := rn_chkM_good rn_k117_0
theorem rn_c117 : rn_cw rn_m117 := rn_chkC_cw (js := [77, 960]) (by decide +kernel)
def rn_j118_0 : List (List Nat) := [[], [], [], []]
theorem rn_k118_0 : rn_chkM rn_m118 rn_t118 rn_j118_0 = true := by decide +kernel
theorem rn_g118 : ∀ e ∈ rn_m118.2.2.2.2.2, rn_good rn_m118 e := rn_chkM_good rn_k118_0
theorem rn_c118 : rn_cw rn_m118 := rn_chkC_cw (js := [77, 963]) (by decide +kernel)
def rn_j119_0 : List (List Nat) := [[], [], [], [], [], [133], [], [], [], [], [], [], [], [], [], [272], [], [], [], [270], [], [], [967, 674, 675, 77, 676], [], [], [], [], []]
theorem rn_k119_0 : rn_chkM rn_m119 rn_t119 rn_j119_0 = true := by decide +kernel
theorem rn_g119 : ∀ e ∈ rn_m119.2.2.2.2.2, rn_good rn_m119 e := rn_chkM_good rn_k119_0
theorem rn_c119 : rn_cw rn_m119 := rn_chkC_cw (js := [83, 966]) (by decide +kernel)
def rn_j120_0 : List (List Nat) := [[], [], [264], [264], [], [], [267], [267], [], [269], [], [], [269], [], [], [972, 635, 634, 87], [], [271], [], [], [271], [], [], [972, 635, 634, 87], [], [274], [], [], [274], [], [], [972, 635, 634, 87], [], [276], [], [], [276], [], [], [972, 635, 634, 87], []]
theorem rn_k120_0 : rn_chkM rn_m120 rn_t120 rn_j120_0 = true := by decide +kernel
theorem rn_g120 : ∀ e ∈ rn_m120.2.2.2.2.2, rn_good rn_m120 e := rn_chkM_good rn_k120_0
theorem rn_c120 : rn_cw rn_m120 := rn_chkC_cw (js := [80, 971]) (by decide +kernel)
def rn_j121_0 : List (List Nat) := [[], [482], [301], [266], [], [], [482], [296], [200], [], [], [], [], [], [], [], [482], [293], [136], [], [], [482], [301], [], [482], [293], [], [482], [296], [], [977, 978, 979, 80, 980], [], [], [], [], [], [], [482], [293], [172], [], [], [], [], [], [482], [301], [268], [], [], [], [], []]
theorem rn_k121_0 : rn_chkM rn_m121 rn_t121 rn_j121_0 = true := by decide +kernel
theorem rn_g121 : ∀ e ∈ rn_m121.2.2.2.2.2, rn_good rn_m121 e := rn_chkM_good rn_k121_0
theorem rn_c121 : rn_cw rn_m121 := rn_chkC_cw (js := [74, 976]) (by decide +kernel)
def rn_j122_0 : List (List Nat) := [[], [], [], [], [], [], [140], [], [], [], [135], [], [], [], [274], [], [], [], [], [], [], [205], [], [], [], [], [], [], [], [], [], [135], [], [], [981, 983, 31, 80, 984], [], [], [], [], [], [], [], [], [205], [], [], [], [], [], [], []]
theorem rn_k122_0 : rn_chkM rn_m122 rn_t122 rn_j122_0 = true := by decide +kernel
theorem rn_g122 : ∀ e ∈ rn_m122.2.2.2.2.2, rn_good rn_m122 e := rn_chkM_good rn_k122_0
theorem rn_c122 : rn_cw rn_m122 := rn_chkC_cw (js := [80, 980]) (by decide +kernel)
def rn_j123_0 : List (List Nat) := [[], [], [], [], [], [], [135], [], [], [], [], [269], [], [], [], [], [], [], [], [], [], [], [], [], [], [135], [], [], [], [], [], [], [985, 661, 662, 78, 663], [], [], [], [], [], [166], [], [], [], [269], [], [], [], [], [], [], [], [], [], [], [], [], [], [], [], [], []]
theorem rn_k123_0 : rn_chkM rn_m123 rn_t123_0 rn_j123_0 = true := by decide +kernel
def rn_j123_1 : List (List Nat) := [[]]
theorem rn_k123_1 : rn_chkM rn_m123 rn_t123_1 rn_j123_1 = true := by decide +kernel
theorem rn_g123 : ∀ e ∈ rn_m123.2.2.2.2.2, rn_good rn_m123 e := (List.forall_mem_append.mpr ⟨rn_chkM_good rn_k123_0, (rn_chkM_good rn_k123_1)⟩)
theorem rn_c123 : rn_cw rn_m123 := rn_chkC_cw (js := [80, 984]) (by decide +kernel)
def rn_j124_0 : List (List Nat) := [[], [], [], [], [], [], [], [], [], [], [], [], [], [482], [301], [266], [], [], [], [], [], [482], [293], [601, 558, 559, 77, 560], [], [], [], [], [], [], [482], [301], [273], [], [], [], [], [482], [301], [275], [], [], []]
theorem rn_k124_0 : rn_chkM rn_m124 rn_t124 rn_j124_0 = true := by decide +kernel
theorem rn_g124 : ∀ e ∈ rn_m124.2.2.2.2.2, rn_good rn_m124 e := rn_chkM_good rn_k124_0
theorem rn_c124 : rn_cw rn_m124 := rn_chkC_cw (js := [74, 989]) (by decide +kernel)
def rn_j125_0 : List (List Nat) := [[], [], [], [], [], [], [], [], [482], [301], [266], [], [], [], [], [], [482], [293], [601, 558, 559, 77, 560], [], [], [], [], [486], [], [482], [293], [], [482], [301], [], [994, 995, 996, 83, 997], []]
theorem rn_k125_0 : rn_chkM rn_m125 rn_t125 rn_j125_0 = true := by decide +kernel
theorem rn_g125 : ∀ e ∈ rn_m125.2.2.2.2.2, rn_good rn_m125 e := rn_chkM_good rn_k125_0
theorem rn_c125 : rn_cw rn_m125 := rn_chkC_cw (js := [74, 993]) (by decide +kernel)
def rn_j126_0 : List (List Nat) := [[], [], [956, 558, 559, 77, 560], [], [], [], [], [277], [], [], [], [], [], [], [], [952, 954, 30, 83, 955], [], [277], [], [], [], [], [], [272], [], [], [], [], [], [964, 965, 83, 966], [], [], [998, 1000, 32, 83, 1001], [], [], [277], [], [], []]
theorem rn_k126_0 : rn_chkM rn_m126 rn_t126 rn_j126_0 = true := by decide +kernel
theorem rn_g126 : ∀ e ∈ rn_m126.2.2.2.2.2, rn_good rn_m126 e := rn_chkM_good rn_k126_0
theorem rn_c126 : rn_cw rn_m126 := rn_chkC_cw (js := [83, 997]) (by decide +kernel)
def rn_j127_0 : List (List Nat) := [[], [], [956, 558, 559, 77, 560], [], [], [], [], [], [], [], [], [], [], [], [], [], [], [], [], [], [], [448], [], [], [], [], [], [], [], [], [], [], [], [], [], [], [], [], [], [], [], [], [], [957, 958, 959, 77, 960], [], [], [448], [], [], [], [], [], [], [], [], [], [], [], [], []]
theorem rn_k127_0 : rn_chkM rn_m127 rn_t127_0 rn_j127_0 = true := by decide +kernel
def rn_j127_1 : List (List Nat) := [[], [], [], [], [967, 674, 675, 77, 676], [], [], [1002, 1004, 33, 83, 1005], [], [], [], [], [], [1008, 1009, 86, 1010], [], [], [], [1011, 551, 86, 552], [], [], [], [], [], [1008, 1009, 86, 1010], [], [], [], [], [], [], [], [], [], [1011, 551, 86, 552], [], [], [], [], [448], [], [], [], [], []]
theorem rn_k127_1 : rn_chkM rn_m127 rn_t127_1 rn_j127_1 = true := by decide +kernel
theorem rn_g127 : ∀ e ∈ rn_m127.2.2.2.2.2, rn_good rn_m127 e := (List.forall_mem_append.mpr ⟨rn_chkM_good rn_k127_0, (rn_chkM_good rn_k127_1)⟩)
theorem rn_c127 : rn_cw rn_m127 := rn_chkC_cw (js := [83, 1001]) (by decide +kernel)
def rn_j128_0 : List (List Nat) := [[], [], [1006, 678, 679, 77, 680], [], [], [], [], [], [133], [], [], [], [], [], [], [], [], [], [], [], [998, 1000, 32, 83, 1001], [], [], [1007, 682, 77, 683], [], [], [], [], [], [], [], [], [], [], [161], [], [], [], [], [], [1006, 678, 679, 77, 680], [], [], [], [], [], [], [], [], [], [], [], [], [], [], [], [998, 1000, 32, 83, 1001], [], []]
theorem rn_k128_0 : rn_chkM rn_m128 rn_t128 rn_j128_0 = true := by decide +kernel
theorem rn_g128 : ∀ e ∈ rn_m128.2.2.2.2.2, rn_good rn_m128 e := rn_chkM_good rn_k128_0
theorem rn_c128 : rn_cw rn_m128 := rn_chkC_cw (js := [83, 1005]) (by decide +kernel)
