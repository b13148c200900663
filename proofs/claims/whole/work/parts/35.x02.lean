/-! wa_note -/
theorem op71_0 : rn_op 71 0 = some (.iload_n 3, 1, 0, 0, 0) := by decide +kernel
theorem op71_1 : rn_op 71 1 = some (.iconst 4, 1, 0, 0, 0) := by decide +kernel
theorem op71_2 : rn_op 71 2 = some (.aload_n 1, 1, 0, 0, 0) := by decide +kernel
theorem op71_3 : rn_op 71 3 = some (.getfield 44, 3, 1, 1, 0) := by decide +kernel
theorem op71_6 : rn_op 71 6 = some (.iconst 1, 1, 0, 0, 0) := by decide +kernel
theorem op71_7 : rn_op 71 7 = some (.isub, 1, 0, 0, 0) := by decide +kernel
theorem op71_8 : rn_op 71 8 = some (.imul, 1, 0, 0, 0) := by decide +kernel
theorem op71_9 : rn_op 71 9 = some (.ishr, 1, 0, 0, 0) := by decide +kernel
theorem op71_10 : rn_op 71 10 = some (.bipush 15, 2, 0, 0, 0) := by decide +kernel
theorem op71_12 : rn_op 71 12 = some (.iand, 1, 0, 0, 0) := by decide +kernel
theorem op71_13 : rn_op 71 13 = some (.istore 5, 2, 0, 0, 0) := by decide +kernel
theorem op71_15 : rn_op 71 15 = some (.iconst (-1), 1, 0, 0, 0) := by decide +kernel
theorem op71_16 : rn_op 71 16 = some (.istore 6, 2, 0, 0, 0) := by decide +kernel
theorem op71_18 : rn_op 71 18 = some (.iconst 0, 1, 0, 0, 0) := by decide +kernel
theorem op71_19 : rn_op 71 19 = some (.istore 7, 2, 0, 0, 0) := by decide +kernel
theorem op71_21 : rn_op 71 21 = some (.iload 7, 2, 0, 0, 0) := by decide +kernel
theorem op71_23 : rn_op 71 23 = some (.aload_n 1, 1, 0, 0, 0) := by decide +kernel
theorem op71_24 : rn_op 71 24 = some (.getfield 44, 3, 1, 1, 0) := by decide +kernel
theorem op71_27 : rn_op 71 27 = some (.if_icmp .ge 35, 3, 0, 0, 0) := by decide +kernel
theorem op71_30 : rn_op 71 30 = some (.aload_n 1, 1, 0, 0, 0) := by decide +kernel
theorem op71_31 : rn_op 71 31 = some (.iload 6, 2, 0, 0, 0) := by decide +kernel
theorem op71_33 : rn_op 71 33 = some (.iload 7, 2, 0, 0, 0) := by decide +kernel
theorem op71_35 : rn_op 71 35 = some (.iload_n 3, 1, 0, 0, 0) := by decide +kernel
theorem op71_36 : rn_op 71 36 = some (.iconst 4, 1, 0, 0, 0) := by decide +kernel
theorem op71_37 : rn_op 71 37 = some (.aload_n 1, 1, 0, 0, 0) := by decide +kernel
theorem op71_38 : rn_op 71 38 = some (.getfield 44, 3, 1, 1, 0) := by decide +kernel
theorem op71_41 : rn_op 71 41 = some (.iconst 1, 1, 0, 0, 0) := by decide +kernel
theorem op71_42 : rn_op 71 42 = some (.isub, 1, 0, 0, 0) := by decide +kernel
theorem op71_43 : rn_op 71 43 = some (.iload 7, 2, 0, 0, 0) := by decide +kernel
theorem op71_45 : rn_op 71 45 = some (.isub, 1, 0, 0, 0) := by decide +kernel
theorem op71_46 : rn_op 71 46 = some (.imul, 1, 0, 0, 0) := by decide +kernel
theorem op71_47 : rn_op 71 47 = some (.ishr, 1, 0, 0, 0) := by decide +kernel
theorem op71_48 : rn_op 71 48 = some (.bipush 15, 2, 0, 0, 0) := by decide +kernel
theorem op71_50 : rn_op 71 50 = some (.iand, 1, 0, 0, 0) := by decide +kernel
theorem op71_51 : rn_op 71 51 = some (.invokevirtual 49, 3, 51, 4, 1) := by decide +kernel
theorem op71_54 : rn_op 71 54 = some (.istore 6, 2, 0, 0, 0) := by decide +kernel
theorem op71_56 : rn_op 71 56 = some (.iinc 7 1, 3, 0, 0, 0) := by decide +kernel
theorem op71_59 : rn_op 71 59 = some (.goto (-38), 3, 0, 0, 0) := by decide +kernel
theorem op71_62 : rn_op 71 62 = some (.aload_n 0, 1, 0, 0, 0) := by decide +kernel
theorem op71_63 : rn_op 71 63 = some (.getfield 34, 3, 9, 0, 0) := by decide +kernel
theorem op71_66 : rn_op 71 66 = some (.iload 6, 2, 0, 0, 0) := by decide +kernel
theorem op71_68 : rn_op 71 68 = some (.invokestatic 53, 3, 53, 1, 0) := by decide +kernel
theorem op71_71 : rn_op 71 71 = some (.isub, 1, 0, 0, 0) := by decide +kernel
theorem op71_72 : rn_op 71 72 = some (.istore 7, 2, 0, 0, 0) := by decide +kernel
theorem op71_74 : rn_op 71 74 = some (.iload 7, 2, 0, 0, 0) := by decide +kernel
theorem op71_76 : rn_op 71 76 = some (.ifCond .ge 13, 3, 0, 0, 0) := by decide +kernel
theorem op71_79 : rn_op 71 79 = some (.iload 7, 2, 0, 0, 0) := by decide +kernel
theorem op71_81 : rn_op 71 81 = some (.aload_n 1, 1, 0, 0, 0) := by decide +kernel
theorem op71_82 : rn_op 71 82 = some (.getfield 44, 3, 1, 1, 0) := by decide +kernel
theorem op71_85 : rn_op 71 85 = some (.iadd, 1, 0, 0, 0) := by decide +kernel
theorem op71_86 : rn_op 71 86 = some (.goto 5, 3, 0, 0, 0) := by decide +kernel
theorem op71_89 : rn_op 71 89 = some (.iload 7, 2, 0, 0, 0) := by decide +kernel
theorem op71_91 : rn_op 71 91 = some (.istore 7, 2, 0, 0, 0) := by decide +kernel
theorem op71_93 : rn_op 71 93 = some (.iload 7, 2, 0, 0, 0) := by decide +kernel
theorem op71_95 : rn_op 71 95 = some (.istore 8, 2, 0, 0, 0) := by decide +kernel
theorem op71_97 : rn_op 71 97 = some (.iconst 0, 1, 0, 0, 0) := by decide +kernel
theorem op71_98 : rn_op 71 98 = some (.istore 9, 2, 0, 0, 0) := by decide +kernel
theorem op71_100 : rn_op 71 100 = some (.iconst 0, 1, 0, 0, 0) := by decide +kernel
theorem op71_101 : rn_op 71 101 = some (.istore 10, 2, 0, 0, 0) := by decide +kernel
theorem op71_103 : rn_op 71 103 = some (.iconst 0, 1, 0, 0, 0) := by decide +kernel
theorem op71_104 : rn_op 71 104 = some (.istore 11, 2, 0, 0, 0) := by decide +kernel
theorem op71_106 : rn_op 71 106 = some (.lconst 0, 1, 0, 0, 0) := by decide +kernel
theorem op71_107 : rn_op 71 107 = some (.lstore 12, 2, 0, 0, 0) := by decide +kernel
theorem op71_109 : rn_op 71 109 = some (.aload_n 1, 1, 0, 0, 0) := by decide +kernel
theorem op71_110 : rn_op 71 110 = some (.getfield 44, 3, 1, 1, 0) := by decide +kernel
theorem op71_113 : rn_op 71 113 = some (.iconst 1, 1, 0, 0, 0) := by decide +kernel
theorem op71_114 : rn_op 71 114 = some (.isub, 1, 0, 0, 0) := by decide +kernel
theorem op71_115 : rn_op 71 115 = some (.istore 14, 2, 0, 0, 0) := by decide +kernel
theorem op71_117 : rn_op 71 117 = some (.iload 14, 2, 0, 0, 0) := by decide +kernel
theorem op71_119 : rn_op 71 119 = some (.ifCond .lt 89, 3, 0, 0, 0) := by decide +kernel
theorem op71_122 : rn_op 71 122 = some (.iload_n 3, 1, 0, 0, 0) := by decide +kernel
theorem op71_123 : rn_op 71 123 = some (.iconst 4, 1, 0, 0, 0) := by decide +kernel
theorem op71_124 : rn_op 71 124 = some (.iload 14, 2, 0, 0, 0) := by decide +kernel
theorem op71_126 : rn_op 71 126 = some (.imul, 1, 0, 0, 0) := by decide +kernel
theorem op71_127 : rn_op 71 127 = some (.ishr, 1, 0, 0, 0) := by decide +kernel
theorem op71_128 : rn_op 71 128 = some (.bipush 15, 2, 0, 0, 0) := by decide +kernel
theorem op71_130 : rn_op 71 130 = some (.iand, 1, 0, 0, 0) := by decide +kernel
theorem op71_131 : rn_op 71 131 = some (.istore 15, 2, 0, 0, 0) := by decide +kernel
theorem op71_133 : rn_op 71 133 = some (.iload 9, 2, 0, 0, 0) := by decide +kernel
theorem op71_135 : rn_op 71 135 = some (.aload_n 1, 1, 0, 0, 0) := by decide +kernel
theorem op71_136 : rn_op 71 136 = some (.iload 15, 2, 0, 0, 0) := by decide +kernel
theorem op71_138 : rn_op 71 138 = some (.iload 5, 2, 0, 0, 0) := by decide +kernel
theorem op71_140 : rn_op 71 140 = some (.invokestatic 57, 3, 72, 3, 0) := by decide +kernel
theorem op71_143 : rn_op 71 143 = some (.iconst 4, 1, 0, 0, 0) := by decide +kernel
theorem op71_144 : rn_op 71 144 = some (.iload 8, 2, 0, 0, 0) := by decide +kernel
theorem op71_146 : rn_op 71 146 = some (.imul, 1, 0, 0, 0) := by decide +kernel
theorem op71_147 : rn_op 71 147 = some (.ishl, 1, 0, 0, 0) := by decide +kernel
theorem op71_148 : rn_op 71 148 = some (.ior, 1, 0, 0, 0) := by decide +kernel
theorem op71_149 : rn_op 71 149 = some (.istore 9, 2, 0, 0, 0) := by decide +kernel
theorem op71_151 : rn_op 71 151 = some (.iload 10, 2, 0, 0, 0) := by decide +kernel
theorem op71_153 : rn_op 71 153 = some (.iconst 1, 1, 0, 0, 0) := by decide +kernel
theorem op71_154 : rn_op 71 154 = some (.iconst 4, 1, 0, 0, 0) := by decide +kernel
theorem op71_155 : rn_op 71 155 = some (.iload 8, 2, 0, 0, 0) := by decide +kernel
theorem op71_157 : rn_op 71 157 = some (.imul, 1, 0, 0, 0) := by decide +kernel
theorem op71_158 : rn_op 71 158 = some (.iload 15, 2, 0, 0, 0) := by decide +kernel
theorem op71_160 : rn_op 71 160 = some (.iconst 2, 1, 0, 0, 0) := by decide +kernel
theorem op71_161 : rn_op 71 161 = some (.ishr, 1, 0, 0, 0) := by decide +kernel
theorem op71_162 : rn_op 71 162 = some (.iadd, 1, 0, 0, 0) := by decide +kernel
theorem op71_163 : rn_op 71 163 = some (.ishl, 1, 0, 0, 0) := by decide +kernel
theorem op71_164 : rn_op 71 164 = some (.ior, 1, 0, 0, 0) := by decide +kernel
theorem op71_165 : rn_op 71 165 = some (.istore 10, 2, 0, 0, 0) := by decide +kernel
theorem op71_167 : rn_op 71 167 = some (.iload 11, 2, 0, 0, 0) := by decide +kernel
theorem op71_169 : rn_op 71 169 = some (.aload_n 2, 1, 0, 0, 0) := by decide +kernel
theorem op71_170 : rn_op 71 170 = some (.iload 8, 2, 0, 0, 0) := by decide +kernel
theorem op71_172 : rn_op 71 172 = some (.iload 15, 2, 0, 0, 0) := by decide +kernel
theorem op71_174 : rn_op 71 174 = some (.invokevirtual 61, 3, 73, 3, 0) := by decide +kernel
theorem op71_177 : rn_op 71 177 = some (.ior, 1, 0, 0, 0) := by decide +kernel
theorem op71_178 : rn_op 71 178 = some (.istore 11, 2, 0, 0, 0) := by decide +kernel
theorem op71_180 : rn_op 71 180 = some (.lload 12, 2, 0, 0, 0) := by decide +kernel
theorem op71_182 : rn_op 71 182 = some (.lconst 1, 1, 0, 0, 0) := by decide +kernel
theorem op71_183 : rn_op 71 183 = some (.iconst 4, 1, 0, 0, 0) := by decide +kernel
theorem op71_184 : rn_op 71 184 = some (.iload 15, 2, 0, 0, 0) := by decide +kernel
theorem op71_186 : rn_op 71 186 = some (.imul, 1, 0, 0, 0) := by decide +kernel
theorem op71_187 : rn_op 71 187 = some (.iload 8, 2, 0, 0, 0) := by decide +kernel
theorem op71_189 : rn_op 71 189 = some (.iadd, 1, 0, 0, 0) := by decide +kernel
theorem op71_190 : rn_op 71 190 = some (.lshl, 1, 0, 0, 0) := by decide +kernel
theorem op71_191 : rn_op 71 191 = some (.lor, 1, 0, 0, 0) := by decide +kernel
theorem op71_192 : rn_op 71 192 = some (.lstore 12, 2, 0, 0, 0) := by decide +kernel
theorem op71_194 : rn_op 71 194 = some (.aload_n 1, 1, 0, 0, 0) := by decide +kernel
theorem op71_195 : rn_op 71 195 = some (.iload 8, 2, 0, 0, 0) := by decide +kernel
theorem op71_197 : rn_op 71 197 = some (.invokevirtual 67, 3, 52, 2, 1) := by decide +kernel
theorem op71_200 : rn_op 71 200 = some (.istore 8, 2, 0, 0, 0) := by decide +kernel
theorem op71_202 : rn_op 71 202 = some (.iinc 14 (-1), 3, 0, 0, 0) := by decide +kernel
theorem op71_205 : rn_op 71 205 = some (.goto (-88), 3, 0, 0, 0) := by decide +kernel
theorem op71_208 : rn_op 71 208 = some (.aload_n 0, 1, 0, 0, 0) := by decide +kernel
theorem op71_209 : rn_op 71 209 = some (.iload 7, 2, 0, 0, 0) := by decide +kernel
theorem op71_211 : rn_op 71 211 = some (.iload 9, 2, 0, 0, 0) := by decide +kernel
theorem op71_213 : rn_op 71 213 = some (.iload 10, 2, 0, 0, 0) := by decide +kernel
theorem op71_215 : rn_op 71 215 = some (.iload 4, 2, 0, 0, 0) := by decide +kernel
theorem op71_217 : rn_op 71 217 = some (.iand, 1, 0, 0, 0) := by decide +kernel
theorem op71_218 : rn_op 71 218 = some (.iload 11, 2, 0, 0, 0) := by decide +kernel
theorem op71_220 : rn_op 71 220 = some (.invokevirtual 70, 3, 74, 5, 9) := by decide +kernel
theorem op71_223 : rn_op 71 223 = some (.istore 14, 2, 0, 0, 0) := by decide +kernel
theorem op71_225 : rn_op 71 225 = some (.iload 14, 2, 0, 0, 0) := by decide +kernel
theorem op71_227 : rn_op 71 227 = some (.ifCond .ge 4, 3, 0, 0, 0) := by decide +kernel
theorem op71_230 : rn_op 71 230 = some (.return_, 1, 0, 0, 0) := by decide +kernel
theorem op71_231 : rn_op 71 231 = some (.aload_n 0, 1, 0, 0, 0) := by decide +kernel
theorem op71_232 : rn_op 71 232 = some (.getfield 24, 3, 9, 7, 3) := by decide +kernel
theorem op71_235 : rn_op 71 235 = some (.iload 14, 2, 0, 0, 0) := by decide +kernel
theorem op71_237 : rn_op 71 237 = some (.dup2, 1, 0, 0, 0) := by decide +kernel
theorem op71_238 : rn_op 71 238 = some (.iaload, 1, 0, 0, 0) := by decide +kernel
theorem op71_239 : rn_op 71 239 = some (.iconst 1, 1, 0, 0, 0) := by decide +kernel
theorem op71_240 : rn_op 71 240 = some (.iadd, 1, 0, 0, 0) := by decide +kernel
theorem op71_241 : rn_op 71 241 = some (.iastore, 1, 0, 0, 0) := by decide +kernel
theorem op71_242 : rn_op 71 242 = some (.aload_n 0, 1, 0, 0, 0) := by decide +kernel
theorem op71_243 : rn_op 71 243 = some (.getfield 27, 3, 9, 8, 3) := by decide +kernel
theorem op71_246 : rn_op 71 246 = some (.iload 14, 2, 0, 0, 0) := by decide +kernel
theorem op71_248 : rn_op 71 248 = some (.dup2, 1, 0, 0, 0) := by decide +kernel
theorem op71_249 : rn_op 71 249 = some (.laload, 1, 0, 0, 0) := by decide +kernel
theorem op71_250 : rn_op 71 250 = some (.lload 12, 2, 0, 0, 0) := by decide +kernel
theorem op71_252 : rn_op 71 252 = some (.lor, 1, 0, 0, 0) := by decide +kernel
theorem op71_253 : rn_op 71 253 = some (.lastore, 1, 0, 0, 0) := by decide +kernel
theorem op71_254 : rn_op 71 254 = some (.aload_n 0, 1, 0, 0, 0) := by decide +kernel
theorem op71_255 : rn_op 71 255 = some (.getfield 31, 3, 9, 9, 3) := by decide +kernel
theorem op71_258 : rn_op 71 258 = some (.iload 14, 2, 0, 0, 0) := by decide +kernel
theorem op71_260 : rn_op 71 260 = some (.aload_n 0, 1, 0, 0, 0) := by decide +kernel
theorem op71_261 : rn_op 71 261 = some (.getfield 31, 3, 9, 9, 3) := by decide +kernel
theorem op71_264 : rn_op 71 264 = some (.iload 14, 2, 0, 0, 0) := by decide +kernel
theorem op71_266 : rn_op 71 266 = some (.iaload, 1, 0, 0, 0) := by decide +kernel
theorem op71_267 : rn_op 71 267 = some (.iload_n 3, 1, 0, 0, 0) := by decide +kernel
theorem op71_268 : rn_op 71 268 = some (.invokestatic 74, 3, 21, 2, 0) := by decide +kernel
theorem op71_271 : rn_op 71 271 = some (.iastore, 1, 0, 0, 0) := by decide +kernel
theorem op71_272 : rn_op 71 272 = some (.return_, 1, 0, 0, 0) := by decide +kernel
def wa_note_l21 (q0 : Nat) (q1 : Nat) (q2 : Nat) (a3 : Int32) (a4 : Int32) (a5 : Int32) : Nat → Int32 → Int32 → rn_Mem → Option (Int32 × rn_Mem)
  | 0, _, _, _ => none
  | n + 1, a6, a7, m =>
    if a7 < (m.1 q1 1) then
      (ga_join n q1 a6 a7 ((a3 >>> (((4 : Int32) * (((m.1 q1 1) - 1) - a7)) &&& 31)) &&& 15) m).bind fun (r4, m3) =>
      (some (a7 + 1)).bind fun (x6 : Int32) =>
      wa_note_l21 q0 q1 q2 a3 a4 a5 n r4 x6 m3
    else
      some (a6, m)
def wa_note_l117 (q0 : Nat) (q1 : Nat) (q2 : Nat) (a3 : Int32) (a4 : Int32) (a5 : Int32) (a7 : Int32) : Nat → Int32 → Int32 → Int32 → Int32 → Int64 → Int32 → rn_Mem → Option (Int32 × Int32 × Int32 × Int64 × rn_Mem)
  | 0, _, _, _, _, _, _, _ => none
  | n + 1, a8, a9, a10, a11, a12, a14, m =>
    if a14 < 0 then
      some (a9, a10, a11, a12, m)
    else
      (some ((a3 >>> (((4 : Int32) * a14) &&& 31)) &&& 15)).bind fun (x37 : Int32) =>
      (wa_barredBy n q1 x37 a5 m).bind fun (r39, m38) =>
      (some (a9 ||| (r39 <<< (((4 : Int32) * a8) &&& 31)))).bind fun (x41 : Int32) =>
      (some (a10 ||| ((1 : Int32) <<< ((((4 : Int32) * a8) + (x37 >>> (2 &&& 31))) &&& 31)))).bind fun (x42 : Int32) =>
      (cl_againstHolding n q2 a8 x37 m38).bind fun (r44, m43) =>
      (some (a11 ||| r44)).bind fun (x46 : Int32) =>
      (some (a12 ||| ((1 : Int64) <<< ((((4 : Int32) * x37) + a8).toInt64 &&& 63)))).bind fun (x47 : Int64) =>
      (ga_next n q1 a8 m43).bind fun (r49, m48) =>
      (some (a14 + (-1))).bind fun (x51 : Int32) =>
      wa_note_l117 q0 q1 q2 a3 a4 a5 a7 n r49 x41 x42 x46 x47 x51 m48
def wa_note (n : Nat) (q0 : Nat) (q1 : Nat) (q2 : Nat) (a3 : Int32) (a4 : Int32) (m : rn_Mem) : Option (rn_Mem) :=
  (some ((a3 >>> (((4 : Int32) * ((m.1 q1 1) - 1)) &&& 31)) &&& 15)).bind fun (x1 : Int32) =>
  (wa_note_l21 q0 q1 q2 a3 a4 x1 n (-1) 0 m).bind fun (x8, m7) =>
  (ga_winnerOf n x8 m7).bind fun (r19, m18) =>
  (some ((m7.1 q0 0) - r19)).bind fun (x21 : Int32) =>
  (show Option (Int32) from
    if x21 < 0 then
      some (x21 + (m18.1 q1 1))
    else
      some (x21)).bind fun x33 =>
  (some ((m18.1 q1 1) - 1)).bind fun (x35 : Int32) =>
  (wa_note_l117 q0 q1 q2 a3 a4 x1 x33 n x33 0 0 0 0 x35 m18).bind fun (x58, x59, x60, x61, m52) =>
  (wa_find n q0 x33 x58 (x59 &&& a4) x60 m52).bind fun (r66, m65) =>
  if r66 < 0 then
    some m65
  else
    if rn_in r66 24 = true then
      if rn_in r66 24 = true then
        (some (rm_i m65 (q0 + 5) r66.toNatClampNeg ((m65.1 (q0 + 5) r66.toNatClampNeg) + 1))).bind fun (m71 : rn_Mem) =>
        if rn_in r66 24 = true then
          if rn_in r66 24 = true then
            (some (rm_j m71 (q0 + 6) r66.toNatClampNeg ((m71.2 (q0 + 6) r66.toNatClampNeg) ||| x61))).bind fun (m74 : rn_Mem) =>
            if rn_in r66 24 = true then
              (ja_min n (m74.1 (q0 + 7) r66.toNatClampNeg) a3 m74).bind fun (r78, m77) =>
              if rn_in r66 24 = true then
                (some (rm_i m77 (q0 + 7) r66.toNatClampNeg r78)).bind fun (m80 : rn_Mem) =>
                some m80
              else none
            else none
          else none
        else none
      else none
    else none
set_option maxHeartbeats 4000000 in
set_option maxRecDepth 20000 in
theorem wa_note_l21_ok (xs : List Int32) {d : Nat} (hd : 1 ≤ d + 1) {q0 : Nat} {q1 : Nat} {q2 : Nat} {a3 : Int32} {a4 : Int32} {a5 : Int32} {r : Option Value} {τ : rn_H} {out : Int32 × rn_Mem} (hr : ∀ (z6 : Int32) (mO : rn_Mem), out = (z6, mO) → ∀ (o7 o8 o9 o10 o11 o12 o13 o14 o15 : Option Value), rn_R xs (d + 1) 71 62 [some (.ref q0), some (.ref q1), some (.ref q2), some (.int a3), some (.int a4), some (.int a5), some (.int z6), o7, o8, o9, o10, o11, o12, o13, o14, o15] [] (rn_SH, mO) r τ) : ∀ (n : Nat) (a6 : Int32) (a7 : Int32) (o8 o9 o10 o11 o12 o13 o14 o15 : Option Value) (m : rn_Mem), sA_Ways q0 → sA_Game q1 → sA_Clues q2 → wa_note_l21 q0 q1 q2 a3 a4 a5 n a6 a7 m = some out → rn_R xs (d + 1) 71 21 [some (.ref q0), some (.ref q1), some (.ref q2), some (.int a3), some (.int a4), some (.int a5), some (.int a6), some (.int a7), o8, o9, o10, o11, o12, o13, o14, o15] [] (rn_SH, m) r τ := by
  intro n
  induction n with
  | zero =>
    intro _ _ _ _ _ _ _ _ _ _ _ _ _ _ h
    cases h
  | succ n ih =>
    intro a6 a7 o8 o9 o10 o11 o12 o13 o14 o15 m hq0 hq1 hq2 h
    unfold wa_note_l21 at h
    try dsimp only at h
    refine rx_p (L2 := [some (.ref q0), some (.ref q1), some (.ref q2), some (.int a3), some (.int a4), some (.int a5), some (.int a6), some (.int a7), o8, o9, o10, o11, o12, o13, o14, o15]) (S2 := [.int a7]) (pc2 := 23) op71_21 rfl rfl ?_
    refine rx_p (L2 := [some (.ref q0), some (.ref q1), some (.ref q2), some (.int a3), some (.int a4), some (.int a5), some (.int a6), some (.int a7), o8, o9, o10, o11, o12, o13, o14, o15]) (S2 := [.ref q1, .int a7]) (pc2 := 24) op71_23 rfl rfl ?_
    refine rx_gf (v := .int (m.1 q1 1)) (pc2 := 27) op71_24 hq1 rfl rfl rfl ?_
    refine ry_ic_ge (tgt := 62) (pc2 := 30) op71_27 (by decide) (by decide) rfl (fun b2 => ?_) (fun b2 => ?_)
    · have h := (if_pos b2).symm.trans h
      refine rx_p (L2 := [some (.ref q0), some (.ref q1), some (.ref q2), some (.int a3), some (.int a4), some (.int a5), some (.int a6), some (.int a7), o8, o9, o10, o11, o12, o13, o14, o15]) (S2 := [.ref q1]) (pc2 := 31) op71_30 rfl rfl ?_
      refine rx_p (L2 := [some (.ref q0), some (.ref q1), some (.ref q2), some (.int a3), some (.int a4), some (.int a5), some (.int a6), some (.int a7), o8, o9, o10, o11, o12, o13, o14, o15]) (S2 := [.int a6, .ref q1]) (pc2 := 33) op71_31 rfl rfl ?_
      refine rx_p (L2 := [some (.ref q0), some (.ref q1), some (.ref q2), some (.int a3), some (.int a4), some (.int a5), some (.int a6), some (.int a7), o8, o9, o10, o11, o12, o13, o14, o15]) (S2 := [.int a7, .int a6, .ref q1]) (pc2 := 35) op71_33 rfl rfl ?_
      refine rx_p (L2 := [some (.ref q0), some (.ref q1), some (.ref q2), some (.int a3), some (.int a4), some (.int a5), some (.int a6), some (.int a7), o8, o9, o10, o11, o12, o13, o14, o15]) (S2 := [.int a3, .int a7, .int a6, .ref q1]) (pc2 := 36) op71_35 rfl rfl ?_
      refine rx_ic (v := 4) (pc2 := 37) op71_36 (by decide) rfl ?_
      refine rx_p (L2 := [some (.ref q0), some (.ref q1), some (.ref q2), some (.int a3), some (.int a4), some (.int a5), some (.int a6), some (.int a7), o8, o9, o10, o11, o12, o13, o14, o15]) (S2 := [.ref q1, .int 4, .int a3, .int a7, .int a6, .ref q1]) (pc2 := 38) op71_37 rfl rfl ?_
      refine rx_gf (v := .int (m.1 q1 1)) (pc2 := 41) op71_38 hq1 rfl rfl rfl ?_
      refine rx_ic (v := 1) (pc2 := 42) op71_41 (by decide) rfl ?_
      refine rx_p (L2 := [some (.ref q0), some (.ref q1), some (.ref q2), some (.int a3), some (.int a4), some (.int a5), some (.int a6), some (.int a7), o8, o9, o10, o11, o12, o13, o14, o15]) (S2 := [.int ((m.1 q1 1) - 1), .int 4, .int a3, .int a7, .int a6, .ref q1]) (pc2 := 43) op71_42 rfl rfl ?_
      refine rx_p (L2 := [some (.ref q0), some (.ref q1), some (.ref q2), some (.int a3), some (.int a4), some (.int a5), some (.int a6), some (.int a7), o8, o9, o10, o11, o12, o13, o14, o15]) (S2 := [.int a7, .int ((m.1 q1 1) - 1), .int 4, .int a3, .int a7, .int a6, .ref q1]) (pc2 := 45) op71_43 rfl rfl ?_
      refine rx_p (L2 := [some (.ref q0), some (.ref q1), some (.ref q2), some (.int a3), some (.int a4), some (.int a5), some (.int a6), some (.int a7), o8, o9, o10, o11, o12, o13, o14, o15]) (S2 := [.int (((m.1 q1 1) - 1) - a7), .int 4, .int a3, .int a7, .int a6, .ref q1]) (pc2 := 46) op71_45 rfl rfl ?_
      refine rx_p (L2 := [some (.ref q0), some (.ref q1), some (.ref q2), some (.int a3), some (.int a4), some (.int a5), some (.int a6), some (.int a7), o8, o9, o10, o11, o12, o13, o14, o15]) (S2 := [.int ((4 : Int32) * (((m.1 q1 1) - 1) - a7)), .int a3, .int a7, .int a6, .ref q1]) (pc2 := 47) op71_46 rfl rfl ?_
      refine rx_p (L2 := [some (.ref q0), some (.ref q1), some (.ref q2), some (.int a3), some (.int a4), some (.int a5), some (.int a6), some (.int a7), o8, o9, o10, o11, o12, o13, o14, o15]) (S2 := [.int (a3 >>> (((4 : Int32) * (((m.1 q1 1) - 1) - a7)) &&& 31)), .int a7, .int a6, .ref q1]) (pc2 := 48) op71_47 rfl rfl ?_
      refine rx_bp (v := 15) (pc2 := 50) op71_48 (by decide) rfl ?_
      refine rx_p (L2 := [some (.ref q0), some (.ref q1), some (.ref q2), some (.int a3), some (.int a4), some (.int a5), some (.int a6), some (.int a7), o8, o9, o10, o11, o12, o13, o14, o15]) (S2 := [.int ((a3 >>> (((4 : Int32) * (((m.1 q1 1) - 1) - a7)) &&& 31)) &&& 15), .int a7, .int a6, .ref q1]) (pc2 := 51) op71_50 rfl rfl ?_
      obtain ⟨⟨r4, m3⟩, f5, h⟩ := rq_bind h
      try dsimp only at h
      refine ry_iv (p := q1) (vs := [.int a6, .int a7, .int ((a3 >>> (((4 : Int32) * (((m.1 q1 1) - 1) - a7)) &&& 31)) &&& 15)]) (T := []) (pc2 := 54) op71_51 ms_51 (by decide) rfl rfl (Nat.le_of_ble_eq_true rfl) (Nat.le_of_ble_eq_true rfl) hq1 (ga_join_ok xs (by omega) hq1 f5) rfl ?_
      show rn_R _ _ _ _ _ [.int r4] _ _ _
      refine rx_s (L2 := [some (.ref q0), some (.ref q1), some (.ref q2), some (.int a3), some (.int a4), some (.int a5), some (.int r4), some (.int a7), o8, o9, o10, o11, o12, o13, o14, o15]) (pc2 := 56) op71_54 rfl rfl rfl ?_
      obtain ⟨x6, ex6, h⟩ := rq_bv h
      refine rx_inc (w := 1) (v := x6) (L2 := [some (.ref q0), some (.ref q1), some (.ref q2), some (.int a3), some (.int a4), some (.int a5), some (.int r4), some (.int x6), o8, o9, o10, o11, o12, o13, o14, o15]) (pc2 := 59) op71_56 rfl (by decide) ex6 rfl rfl ?_
      refine ry_go (tgt := 21) op71_59 (by decide) (by decide) ?_
      exact ih _ _ _ _ _ _ _ _ _ _ _ hq0 hq1 hq2 h
    · have h := (if_neg b2).symm.trans h
      cases h
      exact hr _ _ rfl _ _ _ _ _ _ _ _ _
set_option maxHeartbeats 4000000 in
set_option maxRecDepth 20000 in
theorem wa_note_l117_ok (xs : List Int32) {d : Nat} (hd : 1 ≤ d + 1) {q0 : Nat} {q1 : Nat} {q2 : Nat} {a3 : Int32} {a4 : Int32} {a5 : Int32} {a7 : Int32} {r : Option Value} {τ : rn_H} {out : Int32 × Int32 × Int32 × Int64 × rn_Mem} (hr : ∀ (z9 : Int32) (z10 : Int32) (z11 : Int32) (z12 : Int64) (mO : rn_Mem), out = (z9, z10, z11, z12, mO) → ∀ (o1 o2 o5 o6 o8 o13 o14 o15 : Option Value), rn_R xs (d + 1) 71 208 [some (.ref q0), o1, o2, some (.int a3), some (.int a4), o5, o6, some (.int a7), o8, some (.int z9), some (.int z10), some (.int z11), some (.long z12), o13, o14, o15] [] (rn_SH, mO) r τ) : ∀ (n : Nat) (a8 : Int32) (a9 : Int32) (a10 : Int32) (a11 : Int32) (a12 : Int64) (a14 : Int32) (o6 o13 o15 : Option Value) (m : rn_Mem), sA_Ways q0 → sA_Game q1 → sA_Clues q2 → wa_note_l117 q0 q1 q2 a3 a4 a5 a7 n a8 a9 a10 a11 a12 a14 m = some out → rn_R xs (d + 1) 71 117 [some (.ref q0), some (.ref q1), some (.ref q2), some (.int a3), some (.int a4), some (.int a5), o6, some (.int a7), some (.int a8), some (.int a9), some (.int a10), some (.int a11), some (.long a12), o13, some (.int a14), o15] [] (rn_SH, m) r τ := by
  intro n
  induction n with
  | zero =>
    intro _ _ _ _ _ _ _ _ _ _ _ _ _ h
    cases h
  | succ n ih =>
    intro a8 a9 a10 a11 a12 a14 o6 o13 o15 m hq0 hq1 hq2 h
    unfold wa_note_l117 at h
    try dsimp only at h
    refine rx_p (L2 := [some (.ref q0), some (.ref q1), some (.ref q2), some (.int a3), some (.int a4), some (.int a5), o6, some (.int a7), some (.int a8), some (.int a9), some (.int a10), some (.int a11), some (.long a12), o13, some (.int a14), o15]) (S2 := [.int a14]) (pc2 := 119) op71_117 rfl rfl ?_
    refine ry_if_lt (tgt := 208) (pc2 := 122) op71_119 (by decide) (by decide) rfl (fun b36 => ?_) (fun b36 => ?_)
    · have h := (if_pos b36).symm.trans h
      cases h
      exact hr _ _ _ _ _ rfl _ _ _ _ _ _ _ _
    · have h := (if_neg b36).symm.trans h
      refine rx_p (L2 := [some (.ref q0), some (.ref q1), some (.ref q2), some (.int a3), some (.int a4), some (.int a5), o6, some (.int a7), some (.int a8), some (.int a9), some (.int a10), some (.int a11), some (.long a12), o13, some (.int a14), o15]) (S2 := [.int a3]) (pc2 := 123) op71_122 rfl rfl ?_
      refine rx_ic (v := 4) (pc2 := 124) op71_123 (by decide) rfl ?_
      refine rx_p (L2 := [some (.ref q0), some (.ref q1), some (.ref q2), some (.int a3), some (.int a4), some (.int a5), o6, some (.int a7), some (.int a8), some (.int a9), some (.int a10), some (.int a11), some (.long a12), o13, some (.int a14), o15]) (S2 := [.int a14, .int 4, .int a3]) (pc2 := 126) op71_124 rfl rfl ?_
      refine rx_p (L2 := [some (.ref q0), some (.ref q1), some (.ref q2), some (.int a3), some (.int a4), some (.int a5), o6, some (.int a7), some (.int a8), some (.int a9), some (.int a10), some (.int a11), some (.long a12), o13, some (.int a14), o15]) (S2 := [.int ((4 : Int32) * a14), .int a3]) (pc2 := 127) op71_126 rfl rfl ?_
      refine rx_p (L2 := [some (.ref q0), some (.ref q1), some (.ref q2), some (.int a3), some (.int a4), some (.int a5), o6, some (.int a7), some (.int a8), some (.int a9), some (.int a10), some (.int a11), some (.long a12), o13, some (.int a14), o15]) (S2 := [.int (a3 >>> (((4 : Int32) * a14) &&& 31))]) (pc2 := 128) op71_127 rfl rfl ?_
      refine rx_bp (v := 15) (pc2 := 130) op71_128 (by decide) rfl ?_
      refine rx_p (L2 := [some (.ref q0), some (.ref q1), some (.ref q2), some (.int a3), some (.int a4), some (.int a5), o6, some (.int a7), some (.int a8), some (.int a9), some (.int a10), some (.int a11), some (.long a12), o13, some (.int a14), o15]) (S2 := [.int ((a3 >>> (((4 : Int32) * a14) &&& 31)) &&& 15)]) (pc2 := 131) op71_130 rfl rfl ?_
      obtain ⟨x37, ex37, h⟩ := rq_bv h
      refine rx_s (v := x37) (L2 := [some (.ref q0), some (.ref q1), some (.ref q2), some (.int a3), some (.int a4), some (.int a5), o6, some (.int a7), some (.int a8), some (.int a9), some (.int a10), some (.int a11), some (.long a12), o13, some (.int a14), some (.int x37)]) (pc2 := 133) op71_131 ex37 rfl rfl ?_
      refine rx_p (L2 := [some (.ref q0), some (.ref q1), some (.ref q2), some (.int a3), some (.int a4), some (.int a5), o6, some (.int a7), some (.int a8), some (.int a9), some (.int a10), some (.int a11), some (.long a12), o13, some (.int a14), some (.int x37)]) (S2 := [.int a9]) (pc2 := 135) op71_133 rfl rfl ?_
      refine rx_p (L2 := [some (.ref q0), some (.ref q1), some (.ref q2), some (.int a3), some (.int a4), some (.int a5), o6, some (.int a7), some (.int a8), some (.int a9), some (.int a10), some (.int a11), some (.long a12), o13, some (.int a14), some (.int x37)]) (S2 := [.ref q1, .int a9]) (pc2 := 136) op71_135 rfl rfl ?_
      refine rx_p (L2 := [some (.ref q0), some (.ref q1), some (.ref q2), some (.int a3), some (.int a4), some (.int a5), o6, some (.int a7), some (.int a8), some (.int a9), some (.int a10), some (.int a11), some (.long a12), o13, some (.int a14), some (.int x37)]) (S2 := [.int x37, .ref q1, .int a9]) (pc2 := 138) op71_136 rfl rfl ?_
      refine rx_p (L2 := [some (.ref q0), some (.ref q1), some (.ref q2), some (.int a3), some (.int a4), some (.int a5), o6, some (.int a7), some (.int a8), some (.int a9), some (.int a10), some (.int a11), some (.long a12), o13, some (.int a14), some (.int x37)]) (S2 := [.int a5, .int x37, .ref q1, .int a9]) (pc2 := 140) op71_138 rfl rfl ?_
      obtain ⟨⟨r39, m38⟩, f40, h⟩ := rq_bind h
      try dsimp only at h
      refine ry_is (vs := [.ref q1, .int x37, .int a5]) (T := [.int a9]) (pc2 := 143) op71_140 (by decide) ms_72 (by decide) rfl rfl (Nat.le_of_ble_eq_true rfl) (Nat.le_of_ble_eq_true rfl) (wa_barredBy_ok xs (by omega) hq1 f40) rfl ?_
      show rn_R _ _ _ _ _ [.int r39, .int a9] _ _ _
      refine rx_ic (v := 4) (pc2 := 144) op71_143 (by decide) rfl ?_
      refine rx_p (L2 := [some (.ref q0), some (.ref q1), some (.ref q2), some (.int a3), some (.int a4), some (.int a5), o6, some (.int a7), some (.int a8), some (.int a9), some (.int a10), some (.int a11), some (.long a12), o13, some (.int a14), some (.int x37)]) (S2 := [.int a8, .int 4, .int r39, .int a9]) (pc2 := 146) op71_144 rfl rfl ?_
      refine rx_p (L2 := [some (.ref q0), some (.ref q1), some (.ref q2), some (.int a3), some (.int a4), some (.int a5), o6, some (.int a7), some (.int a8), some (.int a9), some (.int a10), some (.int a11), some (.long a12), o13, some (.int a14), some (.int x37)]) (S2 := [.int ((4 : Int32) * a8), .int r39, .int a9]) (pc2 := 147) op71_146 rfl rfl ?_
      refine rx_p (L2 := [some (.ref q0), some (.ref q1), some (.ref q2), some (.int a3), some (.int a4), some (.int a5), o6, some (.int a7), some (.int a8), some (.int a9), some (.int a10), some (.int a11), some (.long a12), o13, some (.int a14), some (.int x37)]) (S2 := [.int (r39 <<< (((4 : Int32) * a8) &&& 31)), .int a9]) (pc2 := 148) op71_147 rfl rfl ?_
      refine rx_p (L2 := [some (.ref q0), some (.ref q1), some (.ref q2), some (.int a3), some (.int a4), some (.int a5), o6, some (.int a7), some (.int a8), some (.int a9), some (.int a10), some (.int a11), some (.long a12), o13, some (.int a14), some (.int x37)]) (S2 := [.int (a9 ||| (r39 <<< (((4 : Int32) * a8) &&& 31)))]) (pc2 := 149) op71_148 rfl rfl ?_
      obtain ⟨x41, ex41, h⟩ := rq_bv h
      refine rx_s (v := x41) (L2 := [some (.ref q0), some (.ref q1), some (.ref q2), some (.int a3), some (.int a4), some (.int a5), o6, some (.int a7), some (.int a8), some (.int x41), some (.int a10), some (.int a11), some (.long a12), o13, some (.int a14), some (.int x37)]) (pc2 := 151) op71_149 ex41 rfl rfl ?_
      refine rx_p (L2 := [some (.ref q0), some (.ref q1), some (.ref q2), some (.int a3), some (.int a4), some (.int a5), o6, some (.int a7), some (.int a8), some (.int x41), some (.int a10), some (.int a11), some (.long a12), o13, some (.int a14), some (.int x37)]) (S2 := [.int a10]) (pc2 := 153) op71_151 rfl rfl ?_
      refine rx_ic (v := 1) (pc2 := 154) op71_153 (by decide) rfl ?_
      refine rx_ic (v := 4) (pc2 := 155) op71_154 (by decide) rfl ?_
      refine rx_p (L2 := [some (.ref q0), some (.ref q1), some (.ref q2), some (.int a3), some (.int a4), some (.int a5), o6, some (.int a7), some (.int a8), some (.int x41), some (.int a10), some (.int a11), some (.long a12), o13, some (.int a14), some (.int x37)]) (S2 := [.int a8, .int 4, .int 1, .int a10]) (pc2 := 157) op71_155 rfl rfl ?_
      refine rx_p (L2 := [some (.ref q0), some (.ref q1), some (.ref q2), some (.int a3), some (.int a4), some (.int a5), o6, some (.int a7), some (.int a8), some (.int x41), some (.int a10), some (.int a11), some (.long a12), o13, some (.int a14), some (.int x37)]) (S2 := [.int ((4 : Int32) * a8), .int 1, .int a10]) (pc2 := 158) op71_157 rfl rfl ?_
      refine rx_p (L2 := [some (.ref q0), some (.ref q1), some (.ref q2), some (.int a3), some (.int a4), some (.int a5), o6, some (.int a7), some (.int a8), some (.int x41), some (.int a10), some (.int a11), some (.long a12), o13, some (.int a14), some (.int x37)]) (S2 := [.int x37, .int ((4 : Int32) * a8), .int 1, .int a10]) (pc2 := 160) op71_158 rfl rfl ?_
      refine rx_ic (v := 2) (pc2 := 161) op71_160 (by decide) rfl ?_
      refine rx_p (L2 := [some (.ref q0), some (.ref q1), some (.ref q2), some (.int a3), some (.int a4), some (.int a5), o6, some (.int a7), some (.int a8), some (.int x41), some (.int a10), some (.int a11), some (.long a12), o13, some (.int a14), some (.int x37)]) (S2 := [.int (x37 >>> (2 &&& 31)), .int ((4 : Int32) * a8), .int 1, .int a10]) (pc2 := 162) op71_161 rfl rfl ?_
      refine rx_p (L2 := [some (.ref q0), some (.ref q1), some (.ref q2), some (.int a3), some (.int a4), some (.int a5), o6, some (.int a7), some (.int a8), some (.int x41), some (.int a10), some (.int a11), some (.long a12), o13, some (.int a14), some (.int x37)]) (S2 := [.int (((4 : Int32) * a8) + (x37 >>> (2 &&& 31))), .int 1, .int a10]) (pc2 := 163) op71_162 rfl rfl ?_
      refine rx_p (L2 := [some (.ref q0), some (.ref q1), some (.ref q2), some (.int a3), some (.int a4), some (.int a5), o6, some (.int a7), some (.int a8), some (.int x41), some (.int a10), some (.int a11), some (.long a12), o13, some (.int a14), some (.int x37)]) (S2 := [.int ((1 : Int32) <<< ((((4 : Int32) * a8) + (x37 >>> (2 &&& 31))) &&& 31)), .int a10]) (pc2 := 164) op71_163 rfl rfl ?_
      refine rx_p (L2 := [some (.ref q0), some (.ref q1), some (.ref q2), some (.int a3), some (.int a4), some (.int a5), o6, some (.int a7), some (.int a8), some (.int x41), some (.int a10), some (.int a11), some (.long a12), o13, some (.int a14), some (.int x37)]) (S2 := [.int (a10 ||| ((1 : Int32) <<< ((((4 : Int32) * a8) + (x37 >>> (2 &&& 31))) &&& 31)))]) (pc2 := 165) op71_164 rfl rfl ?_
      obtain ⟨x42, ex42, h⟩ := rq_bv h
      refine rx_s (v := x42) (L2 := [some (.ref q0), some (.ref q1), some (.ref q2), some (.int a3), some (.int a4), some (.int a5), o6, some (.int a7), some (.int a8), some (.int x41), some (.int x42), some (.int a11), some (.long a12), o13, some (.int a14), some (.int x37)]) (pc2 := 167) op71_165 ex42 rfl rfl ?_
      refine rx_p (L2 := [some (.ref q0), some (.ref q1), some (.ref q2), some (.int a3), some (.int a4), some (.int a5), o6, some (.int a7), some (.int a8), some (.int x41), some (.int x42), some (.int a11), some (.long a12), o13, some (.int a14), some (.int x37)]) (S2 := [.int a11]) (pc2 := 169) op71_167 rfl rfl ?_
      refine rx_p (L2 := [some (.ref q0), some (.ref q1), some (.ref q2), some (.int a3), some (.int a4), some (.int a5), o6, some (.int a7), some (.int a8), some (.int x41), some (.int x42), some (.int a11), some (.long a12), o13, some (.int a14), some (.int x37)]) (S2 := [.ref q2, .int a11]) (pc2 := 170) op71_169 rfl rfl ?_
      refine rx_p (L2 := [some (.ref q0), some (.ref q1), some (.ref q2), some (.int a3), some (.int a4), some (.int a5), o6, some (.int a7), some (.int a8), some (.int x41), some (.int x42), some (.int a11), some (.long a12), o13, some (.int a14), some (.int x37)]) (S2 := [.int a8, .ref q2, .int a11]) (pc2 := 172) op71_170 rfl rfl ?_
      refine rx_p (L2 := [some (.ref q0), some (.ref q1), some (.ref q2), some (.int a3), some (.int a4), some (.int a5), o6, some (.int a7), some (.int a8), some (.int x41), some (.int x42), some (.int a11), some (.long a12), o13, some (.int a14), some (.int x37)]) (S2 := [.int x37, .int a8, .ref q2, .int a11]) (pc2 := 174) op71_172 rfl rfl ?_
      obtain ⟨⟨r44, m43⟩, f45, h⟩ := rq_bind h
      try dsimp only at h
      refine ry_iv (p := q2) (vs := [.int a8, .int x37]) (T := [.int a11]) (pc2 := 177) op71_174 ms_73 (by decide) rfl rfl (Nat.le_of_ble_eq_true rfl) (Nat.le_of_ble_eq_true rfl) (hq2.1) (cl_againstHolding_ok xs (by omega) hq2 f45) rfl ?_
      show rn_R _ _ _ _ _ [.int r44, .int a11] _ _ _
      refine rx_p (L2 := [some (.ref q0), some (.ref q1), some (.ref q2), some (.int a3), some (.int a4), some (.int a5), o6, some (.int a7), some (.int a8), some (.int x41), some (.int x42), some (.int a11), some (.long a12), o13, some (.int a14), some (.int x37)]) (S2 := [.int (a11 ||| r44)]) (pc2 := 178) op71_177 rfl rfl ?_
      obtain ⟨x46, ex46, h⟩ := rq_bv h
      refine rx_s (v := x46) (L2 := [some (.ref q0), some (.ref q1), some (.ref q2), some (.int a3), some (.int a4), some (.int a5), o6, some (.int a7), some (.int a8), some (.int x41), some (.int x42), some (.int x46), some (.long a12), o13, some (.int a14), some (.int x37)]) (pc2 := 180) op71_178 ex46 rfl rfl ?_
      refine rx_p (L2 := [some (.ref q0), some (.ref q1), some (.ref q2), some (.int a3), some (.int a4), some (.int a5), o6, some (.int a7), some (.int a8), some (.int x41), some (.int x42), some (.int x46), some (.long a12), o13, some (.int a14), some (.int x37)]) (S2 := [.long a12]) (pc2 := 182) op71_180 rfl rfl ?_
      refine rx_lc (v := 1) (pc2 := 183) op71_182 (by decide) rfl ?_
      refine rx_ic (v := 4) (pc2 := 184) op71_183 (by decide) rfl ?_
      refine rx_p (L2 := [some (.ref q0), some (.ref q1), some (.ref q2), some (.int a3), some (.int a4), some (.int a5), o6, some (.int a7), some (.int a8), some (.int x41), some (.int x42), some (.int x46), some (.long a12), o13, some (.int a14), some (.int x37)]) (S2 := [.int x37, .int 4, .long 1, .long a12]) (pc2 := 186) op71_184 rfl rfl ?_
      refine rx_p (L2 := [some (.ref q0), some (.ref q1), some (.ref q2), some (.int a3), some (.int a4), some (.int a5), o6, some (.int a7), some (.int a8), some (.int x41), some (.int x42), some (.int x46), some (.long a12), o13, some (.int a14), some (.int x37)]) (S2 := [.int ((4 : Int32) * x37), .long 1, .long a12]) (pc2 := 187) op71_186 rfl rfl ?_
      refine rx_p (L2 := [some (.ref q0), some (.ref q1), some (.ref q2), some (.int a3), some (.int a4), some (.int a5), o6, some (.int a7), some (.int a8), some (.int x41), some (.int x42), some (.int x46), some (.long a12), o13, some (.int a14), some (.int x37)]) (S2 := [.int a8, .int ((4 : Int32) * x37), .long 1, .long a12]) (pc2 := 189) op71_187 rfl rfl ?_
      refine rx_p (L2 := [some (.ref q0), some (.ref q1), some (.ref q2), some (.int a3), some (.int a4), some (.int a5), o6, some (.int a7), some (.int a8), some (.int x41), some (.int x42), some (.int x46), some (.long a12), o13, some (.int a14), some (.int x37)]) (S2 := [.int (((4 : Int32) * x37) + a8), .long 1, .long a12]) (pc2 := 190) op71_189 rfl rfl ?_
      refine rx_p (L2 := [some (.ref q0), some (.ref q1), some (.ref q2), some (.int a3), some (.int a4), some (.int a5), o6, some (.int a7), some (.int a8), some (.int x41), some (.int x42), some (.int x46), some (.long a12), o13, some (.int a14), some (.int x37)]) (S2 := [.long ((1 : Int64) <<< ((((4 : Int32) * x37) + a8).toInt64 &&& 63)), .long a12]) (pc2 := 191) op71_190 rfl rfl ?_
      refine rx_p (L2 := [some (.ref q0), some (.ref q1), some (.ref q2), some (.int a3), some (.int a4), some (.int a5), o6, some (.int a7), some (.int a8), some (.int x41), some (.int x42), some (.int x46), some (.long a12), o13, some (.int a14), some (.int x37)]) (S2 := [.long (a12 ||| ((1 : Int64) <<< ((((4 : Int32) * x37) + a8).toInt64 &&& 63)))]) (pc2 := 192) op71_191 rfl rfl ?_
      obtain ⟨x47, ex47, h⟩ := rq_bv h
      refine rx_sl (v := x47) (L2 := [some (.ref q0), some (.ref q1), some (.ref q2), some (.int a3), some (.int a4), some (.int a5), o6, some (.int a7), some (.int a8), some (.int x41), some (.int x42), some (.int x46), some (.long x47), none, some (.int a14), some (.int x37)]) (pc2 := 194) op71_192 ex47 rfl rfl ?_
      refine rx_p (L2 := [some (.ref q0), some (.ref q1), some (.ref q2), some (.int a3), some (.int a4), some (.int a5), o6, some (.int a7), some (.int a8), some (.int x41), some (.int x42), some (.int x46), some (.long x47), none, some (.int a14), some (.int x37)]) (S2 := [.ref q1]) (pc2 := 195) op71_194 rfl rfl ?_
      refine rx_p (L2 := [some (.ref q0), some (.ref q1), some (.ref q2), some (.int a3), some (.int a4), some (.int a5), o6, some (.int a7), some (.int a8), some (.int x41), some (.int x42), some (.int x46), some (.long x47), none, some (.int a14), some (.int x37)]) (S2 := [.int a8, .ref q1]) (pc2 := 197) op71_195 rfl rfl ?_
      obtain ⟨⟨r49, m48⟩, f50, h⟩ := rq_bind h
      try dsimp only at h
      refine ry_iv (p := q1) (vs := [.int a8]) (T := []) (pc2 := 200) op71_197 ms_52 (by decide) rfl rfl (Nat.le_of_ble_eq_true rfl) (Nat.le_of_ble_eq_true rfl) hq1 (ga_next_ok xs (by omega) hq1 f50) rfl ?_
      show rn_R _ _ _ _ _ [.int r49] _ _ _
      refine rx_s (L2 := [some (.ref q0), some (.ref q1), some (.ref q2), some (.int a3), some (.int a4), some (.int a5), o6, some (.int a7), some (.int r49), some (.int x41), some (.int x42), some (.int x46), some (.long x47), none, some (.int a14), some (.int x37)]) (pc2 := 202) op71_200 rfl rfl rfl ?_
      obtain ⟨x51, ex51, h⟩ := rq_bv h
      refine rx_inc (w := (-1)) (v := x51) (L2 := [some (.ref q0), some (.ref q1), some (.ref q2), some (.int a3), some (.int a4), some (.int a5), o6, some (.int a7), some (.int r49), some (.int x41), some (.int x42), some (.int x46), some (.long x47), none, some (.int x51), some (.int x37)]) (pc2 := 205) op71_202 rfl (by decide) ex51 rfl rfl ?_
      refine ry_go (tgt := 117) op71_205 (by decide) (by decide) ?_
      exact ih _ _ _ _ _ _ _ _ _ _ hq0 hq1 hq2 h
set_option maxHeartbeats 4000000 in
set_option maxRecDepth 20000 in
theorem wa_note_ok (xs : List Int32) {d : Nat} (hd : 1 ≤ d) {n : Nat} {q0 : Nat} {q1 : Nat} {q2 : Nat} {a3 : Int32} {a4 : Int32} {m mO : rn_Mem} (hq0 : sA_Ways q0) (hq1 : sA_Game q1) (hq2 : sA_Clues q2) (h : wa_note n q0 q1 q2 a3 a4 m = some mO) : rn_R xs d 71 0 (rn_ent 16 [.ref q0, .ref q1, .ref q2, .int a3, .int a4]) [] (rn_SH, m) none (rn_SH, mO) := by
  obtain ⟨d, rfl⟩ : ∃ e, d = e + 1 := ⟨d - 1, by omega⟩
  unfold wa_note at h
  show rn_R xs (d + 1) 71 0 [some (.ref q0), some (.ref q1), some (.ref q2), some (.int a3), some (.int a4), none, none, none, none, none, none, none, none, none, none, none] [] (rn_SH, m) none (rn_SH, mO)
  refine rx_p (L2 := [some (.ref q0), some (.ref q1), some (.ref q2), some (.int a3), some (.int a4), none, none, none, none, none, none, none, none, none, none, none]) (S2 := [.int a3]) (pc2 := 1) op71_0 rfl rfl ?_
  refine rx_ic (v := 4) (pc2 := 2) op71_1 (by decide) rfl ?_
  refine rx_p (L2 := [some (.ref q0), some (.ref q1), some (.ref q2), some (.int a3), some (.int a4), none, none, none, none, none, none, none, none, none, none, none]) (S2 := [.ref q1, .int 4, .int a3]) (pc2 := 3) op71_2 rfl rfl ?_
  refine rx_gf (v := .int (m.1 q1 1)) (pc2 := 6) op71_3 hq1 rfl rfl rfl ?_
  refine rx_ic (v := 1) (pc2 := 7) op71_6 (by decide) rfl ?_
  refine rx_p (L2 := [some (.ref q0), some (.ref q1), some (.ref q2), some (.int a3), some (.int a4), none, none, none, none, none, none, none, none, none, none, none]) (S2 := [.int ((m.1 q1 1) - 1), .int 4, .int a3]) (pc2 := 8) op71_7 rfl rfl ?_
  refine rx_p (L2 := [some (.ref q0), some (.ref q1), some (.ref q2), some (.int a3), some (.int a4), none, none, none, none, none, none, none, none, none, none, none]) (S2 := [.int ((4 : Int32) * ((m.1 q1 1) - 1)), .int a3]) (pc2 := 9) op71_8 rfl rfl ?_
  refine rx_p (L2 := [some (.ref q0), some (.ref q1), some (.ref q2), some (.int a3), some (.int a4), none, none, none, none, none, none, none, none, none, none, none]) (S2 := [.int (a3 >>> (((4 : Int32) * ((m.1 q1 1) - 1)) &&& 31))]) (pc2 := 10) op71_9 rfl rfl ?_
  refine rx_bp (v := 15) (pc2 := 12) op71_10 (by decide) rfl ?_
  refine rx_p (L2 := [some (.ref q0), some (.ref q1), some (.ref q2), some (.int a3), some (.int a4), none, none, none, none, none, none, none, none, none, none, none]) (S2 := [.int ((a3 >>> (((4 : Int32) * ((m.1 q1 1) - 1)) &&& 31)) &&& 15)]) (pc2 := 13) op71_12 rfl rfl ?_
  obtain ⟨x1, ex1, h⟩ := rq_bv h
  refine rx_s (v := x1) (L2 := [some (.ref q0), some (.ref q1), some (.ref q2), some (.int a3), some (.int a4), some (.int x1), none, none, none, none, none, none, none, none, none, none]) (pc2 := 15) op71_13 ex1 rfl rfl ?_
  refine rx_ic (v := (-1)) (pc2 := 16) op71_15 (by decide) rfl ?_
  refine rx_s (L2 := [some (.ref q0), some (.ref q1), some (.ref q2), some (.int a3), some (.int a4), some (.int x1), some (.int (-1)), none, none, none, none, none, none, none, none, none]) (pc2 := 18) op71_16 rfl rfl rfl ?_
  refine rx_ic (v := 0) (pc2 := 19) op71_18 (by decide) rfl ?_
  refine rx_s (L2 := [some (.ref q0), some (.ref q1), some (.ref q2), some (.int a3), some (.int a4), some (.int x1), some (.int (-1)), some (.int 0), none, none, none, none, none, none, none, none]) (pc2 := 21) op71_19 rfl rfl rfl ?_
  obtain ⟨wf84, f84, h⟩ := rq_bind h
  refine wa_note_l21_ok xs hd (fun x8 m7 eq => ?_) _ _ _ _ _ _ _ _ _ _ _ _ hq0 hq1 hq2 f84
  subst eq
  try dsimp only at h
  intro o9 o10 o11 o12 o13 o14 o15 o16 o17
  refine rx_p (L2 := [some (.ref q0), some (.ref q1), some (.ref q2), some (.int a3), some (.int a4), some (.int x1), some (.int x8), o9, o10, o11, o12, o13, o14, o15, o16, o17]) (S2 := [.ref q0]) (pc2 := 63) op71_62 rfl rfl ?_
  refine rx_gf (v := .int (m7.1 q0 0)) (pc2 := 66) op71_63 (hq0.1) rfl rfl rfl ?_
  refine rx_p (L2 := [some (.ref q0), some (.ref q1), some (.ref q2), some (.int a3), some (.int a4), some (.int x1), some (.int x8), o9, o10, o11, o12, o13, o14, o15, o16, o17]) (S2 := [.int x8, .int (m7.1 q0 0)]) (pc2 := 68) op71_66 rfl rfl ?_
  obtain ⟨⟨r19, m18⟩, f20, h⟩ := rq_bind h
  try dsimp only at h
  refine ry_is (vs := [.int x8]) (T := [.int (m7.1 q0 0)]) (pc2 := 71) op71_68 (by decide) ms_53 (by decide) rfl rfl (Nat.le_of_ble_eq_true rfl) (Nat.le_of_ble_eq_true rfl) (ga_winnerOf_ok xs (by omega)  f20) rfl ?_
  show rn_R _ _ _ _ _ [.int r19, .int (m7.1 q0 0)] _ _ _
  refine rx_p (L2 := [some (.ref q0), some (.ref q1), some (.ref q2), some (.int a3), some (.int a4), some (.int x1), some (.int x8), o9, o10, o11, o12, o13, o14, o15, o16, o17]) (S2 := [.int ((m7.1 q0 0) - r19)]) (pc2 := 72) op71_71 rfl rfl ?_
  obtain ⟨x21, ex21, h⟩ := rq_bv h
  refine rx_s (v := x21) (L2 := [some (.ref q0), some (.ref q1), some (.ref q2), some (.int a3), some (.int a4), some (.int x1), some (.int x8), some (.int x21), o10, o11, o12, o13, o14, o15, o16, o17]) (pc2 := 74) op71_72 ex21 rfl rfl ?_
  refine rx_p (L2 := [some (.ref q0), some (.ref q1), some (.ref q2), some (.int a3), some (.int a4), some (.int x1), some (.int x8), some (.int x21), o10, o11, o12, o13, o14, o15, o16, o17]) (S2 := [.int x21]) (pc2 := 76) op71_74 rfl rfl ?_
  obtain ⟨x33, gc83, h⟩ := rq_bind h
  try dsimp only at h
  have c83 : ∀ (o23 o24 o25 o26 o27 o28 o29 o30 o31 o32 : Option Value), rn_R xs (d + 1) 71 91 [some (.ref q0), some (.ref q1), some (.ref q2), some (.int a3), some (.int a4), some (.int x1), o23, o24, o25, o26, o27, o28, o29, o30, o31, o32] [.int x33] (rn_SH, m18) none (rn_SH, mO) := by
    intro o23 o24 o25 o26 o27 o28 o29 o30 o31 o32
    refine rx_sd (v := x33) (j := 6) (pc2 := 93) op71_91 rfl rfl (Nat.le_of_ble_eq_true rfl) rfl (fun o34 => ?_)
    show rn_R _ _ _ _ [some (.ref q0), some (.ref q1), some (.ref q2), some (.int a3), some (.int a4), some (.int x1), o34, some (.int x33), o25, o26, o27, o28, o29, o30, o31, o32] _ _ _ _
    refine rx_p (L2 := [some (.ref q0), some (.ref q1), some (.ref q2), some (.int a3), some (.int a4), some (.int x1), o34, some (.int x33), o25, o26, o27, o28, o29, o30, o31, o32]) (S2 := [.int x33]) (pc2 := 95) op71_93 rfl rfl ?_
    refine rx_s (L2 := [some (.ref q0), some (.ref q1), some (.ref q2), some (.int a3), some (.int a4), some (.int x1), o34, some (.int x33), some (.int x33), o26, o27, o28, o29, o30, o31, o32]) (pc2 := 97) op71_95 rfl rfl rfl ?_
    refine rx_ic (v := 0) (pc2 := 98) op71_97 (by decide) rfl ?_
    refine rx_s (L2 := [some (.ref q0), some (.ref q1), some (.ref q2), some (.int a3), some (.int a4), some (.int x1), o34, some (.int x33), some (.int x33), some (.int 0), o27, o28, o29, o30, o31, o32]) (pc2 := 100) op71_98 rfl rfl rfl ?_
    refine rx_ic (v := 0) (pc2 := 101) op71_100 (by decide) rfl ?_
    refine rx_s (L2 := [some (.ref q0), some (.ref q1), some (.ref q2), some (.int a3), some (.int a4), some (.int x1), o34, some (.int x33), some (.int x33), some (.int 0), some (.int 0), o28, o29, o30, o31, o32]) (pc2 := 103) op71_101 rfl rfl rfl ?_
    refine rx_ic (v := 0) (pc2 := 104) op71_103 (by decide) rfl ?_
    refine rx_s (L2 := [some (.ref q0), some (.ref q1), some (.ref q2), some (.int a3), some (.int a4), some (.int x1), o34, some (.int x33), some (.int x33), some (.int 0), some (.int 0), some (.int 0), o29, o30, o31, o32]) (pc2 := 106) op71_104 rfl rfl rfl ?_
    refine rx_lc (v := 0) (pc2 := 107) op71_106 (by decide) rfl ?_
    refine rx_sl (L2 := [some (.ref q0), some (.ref q1), some (.ref q2), some (.int a3), some (.int a4), some (.int x1), o34, some (.int x33), some (.int x33), some (.int 0), some (.int 0), some (.int 0), some (.long 0), none, o31, o32]) (pc2 := 109) op71_107 rfl rfl rfl ?_
    refine rx_p (L2 := [some (.ref q0), some (.ref q1), some (.ref q2), some (.int a3), some (.int a4), some (.int x1), o34, some (.int x33), some (.int x33), some (.int 0), some (.int 0), some (.int 0), some (.long 0), none, o31, o32]) (S2 := [.ref q1]) (pc2 := 110) op71_109 rfl rfl ?_
    refine rx_gf (v := .int (m18.1 q1 1)) (pc2 := 113) op71_110 hq1 rfl rfl rfl ?_
    refine rx_ic (v := 1) (pc2 := 114) op71_113 (by decide) rfl ?_
    refine rx_p (L2 := [some (.ref q0), some (.ref q1), some (.ref q2), some (.int a3), some (.int a4), some (.int x1), o34, some (.int x33), some (.int x33), some (.int 0), some (.int 0), some (.int 0), some (.long 0), none, o31, o32]) (S2 := [.int ((m18.1 q1 1) - 1)]) (pc2 := 115) op71_114 rfl rfl ?_
    obtain ⟨x35, ex35, h⟩ := rq_bv h
    refine rx_s (v := x35) (L2 := [some (.ref q0), some (.ref q1), some (.ref q2), some (.int a3), some (.int a4), some (.int x1), o34, some (.int x33), some (.int x33), some (.int 0), some (.int 0), some (.int 0), some (.long 0), none, some (.int x35), o32]) (pc2 := 117) op71_115 ex35 rfl rfl ?_
    obtain ⟨wf82, f82, h⟩ := rq_bind h
    refine wa_note_l117_ok xs hd (fun x58 x59 x60 x61 m52 eq => ?_) _ _ _ _ _ _ _ _ _ _ _ hq0 hq1 hq2 f82
    subst eq
    try dsimp only at h
    intro o53 o54 o55 o56 o57 o62 o63 o64
    refine rx_p (L2 := [some (.ref q0), o53, o54, some (.int a3), some (.int a4), o55, o56, some (.int x33), o57, some (.int x58), some (.int x59), some (.int x60), some (.long x61), o62, o63, o64]) (S2 := [.ref q0]) (pc2 := 209) op71_208 rfl rfl ?_
    refine rx_p (L2 := [some (.ref q0), o53, o54, some (.int a3), some (.int a4), o55, o56, some (.int x33), o57, some (.int x58), some (.int x59), some (.int x60), some (.long x61), o62, o63, o64]) (S2 := [.int x33, .ref q0]) (pc2 := 211) op71_209 rfl rfl ?_
    refine rx_p (L2 := [some (.ref q0), o53, o54, some (.int a3), some (.int a4), o55, o56, some (.int x33), o57, some (.int x58), some (.int x59), some (.int x60), some (.long x61), o62, o63, o64]) (S2 := [.int x58, .int x33, .ref q0]) (pc2 := 213) op71_211 rfl rfl ?_
    refine rx_p (L2 := [some (.ref q0), o53, o54, some (.int a3), some (.int a4), o55, o56, some (.int x33), o57, some (.int x58), some (.int x59), some (.int x60), some (.long x61), o62, o63, o64]) (S2 := [.int x59, .int x58, .int x33, .ref q0]) (pc2 := 215) op71_213 rfl rfl ?_
    refine rx_p (L2 := [some (.ref q0), o53, o54, some (.int a3), some (.int a4), o55, o56, some (.int x33), o57, some (.int x58), some (.int x59), some (.int x60), some (.long x61), o62, o63, o64]) (S2 := [.int a4, .int x59, .int x58, .int x33, .ref q0]) (pc2 := 217) op71_215 rfl rfl ?_
    refine rx_p (L2 := [some (.ref q0), o53, o54, some (.int a3), some (.int a4), o55, o56, some (.int x33), o57, some (.int x58), some (.int x59), some (.int x60), some (.long x61), o62, o63, o64]) (S2 := [.int (x59 &&& a4), .int x58, .int x33, .ref q0]) (pc2 := 218) op71_217 rfl rfl ?_
    refine rx_p (L2 := [some (.ref q0), o53, o54, some (.int a3), some (.int a4), o55, o56, some (.int x33), o57, some (.int x58), some (.int x59), some (.int x60), some (.long x61), o62, o63, o64]) (S2 := [.int x60, .int (x59 &&& a4), .int x58, .int x33, .ref q0]) (pc2 := 220) op71_218 rfl rfl ?_
    obtain ⟨⟨r66, m65⟩, f67, h⟩ := rq_bind h
    try dsimp only at h
    refine ry_iv (p := q0) (vs := [.int x33, .int x58, .int (x59 &&& a4), .int x60]) (T := []) (pc2 := 223) op71_220 ms_74 (by decide) rfl rfl (Nat.le_of_ble_eq_true rfl) (Nat.le_of_ble_eq_true rfl) (hq0.1) (wa_find_ok xs (by omega) hq0 f67) rfl ?_
    show rn_R _ _ _ _ _ [.int r66] _ _ _
    refine rx_sd (v := r66) (j := 13) (pc2 := 225) op71_223 rfl rfl (Nat.le_of_ble_eq_true rfl) rfl (fun o68 => ?_)
    show rn_R _ _ _ _ [some (.ref q0), o53, o54, some (.int a3), some (.int a4), o55, o56, some (.int x33), o57, some (.int x58), some (.int x59), some (.int x60), some (.long x61), o68, some (.int r66), o64] _ _ _ _
    refine rx_p (L2 := [some (.ref q0), o53, o54, some (.int a3), some (.int a4), o55, o56, some (.int x33), o57, some (.int x58), some (.int x59), some (.int x60), some (.long x61), o68, some (.int r66), o64]) (S2 := [.int r66]) (pc2 := 227) op71_225 rfl rfl ?_
    refine ry_if_ge (tgt := 231) (pc2 := 230) op71_227 (by decide) (by decide) rfl (fun b69 => ?_) (fun b69 => ?_)
    · have h := (if_pos b69).symm.trans h
      obtain rfl := Option.some.inj h
      exact ry_rv op71_230 ms_71 rfl
    · have h := (if_neg b69).symm.trans h
      refine rx_p (L2 := [some (.ref q0), o53, o54, some (.int a3), some (.int a4), o55, o56, some (.int x33), o57, some (.int x58), some (.int x59), some (.int x60), some (.long x61), o68, some (.int r66), o64]) (S2 := [.ref q0]) (pc2 := 232) op71_231 rfl rfl ?_
      refine rx_gf (v := .ref (q0 + 5)) (pc2 := 235) op71_232 (hq0.1) rfl rfl rfl ?_
      refine rx_p (L2 := [some (.ref q0), o53, o54, some (.int a3), some (.int a4), o55, o56, some (.int x33), o57, some (.int x58), some (.int x59), some (.int x60), some (.long x61), o68, some (.int r66), o64]) (S2 := [.int r66, .ref (q0 + 5)]) (pc2 := 237) op71_235 rfl rfl ?_
      refine rx_p (L2 := [some (.ref q0), o53, o54, some (.int a3), some (.int a4), o55, o56, some (.int x33), o57, some (.int x58), some (.int x59), some (.int x60), some (.long x61), o68, some (.int r66), o64]) (S2 := [.int r66, .ref (q0 + 5), .int r66, .ref (q0 + 5)]) (pc2 := 238) op71_237 rfl rfl ?_
      obtain ⟨k70, h⟩ := rq_chk h
      refine rx_ia (pc2 := 239) op71_238 (rn_shlt (hq0.2.2.2.2.2.1)) (hq0.2.2.2.2.2.1) k70 rfl rfl ?_
      refine rx_ic (v := 1) (pc2 := 240) op71_239 (by decide) rfl ?_
      refine rx_p (L2 := [some (.ref q0), o53, o54, some (.int a3), some (.int a4), o55, o56, some (.int x33), o57, some (.int x58), some (.int x59), some (.int x60), some (.long x61), o68, some (.int r66), o64]) (S2 := [.int ((m65.1 (q0 + 5) r66.toNatClampNeg) + 1), .int r66, .ref (q0 + 5)]) (pc2 := 241) op71_240 rfl rfl ?_
      obtain ⟨k72, h⟩ := rq_chk h
      obtain ⟨m71, em71, h⟩ := rq_bv h
      refine rx_is (m2 := m71) (pc2 := 242) op71_241 (hq0.2.2.2.2.2.1) k72 rfl em71 rfl ?_
      refine rx_p (L2 := [some (.ref q0), o53, o54, some (.int a3), some (.int a4), o55, o56, some (.int x33), o57, some (.int x58), some (.int x59), some (.int x60), some (.long x61), o68, some (.int r66), o64]) (S2 := [.ref q0]) (pc2 := 243) op71_242 rfl rfl ?_
      refine rx_gf (v := .ref (q0 + 6)) (pc2 := 246) op71_243 (hq0.1) rfl rfl rfl ?_
      refine rx_p (L2 := [some (.ref q0), o53, o54, some (.int a3), some (.int a4), o55, o56, some (.int x33), o57, some (.int x58), some (.int x59), some (.int x60), some (.long x61), o68, some (.int r66), o64]) (S2 := [.int r66, .ref (q0 + 6)]) (pc2 := 248) op71_246 rfl rfl ?_
      refine rx_p (L2 := [some (.ref q0), o53, o54, some (.int a3), some (.int a4), o55, o56, some (.int x33), o57, some (.int x58), some (.int x59), some (.int x60), some (.long x61), o68, some (.int r66), o64]) (S2 := [.int r66, .ref (q0 + 6), .int r66, .ref (q0 + 6)]) (pc2 := 249) op71_248 rfl rfl ?_
      obtain ⟨k73, h⟩ := rq_chk h
      refine rx_la (pc2 := 250) op71_249 (hq0.2.2.2.2.2.2.1) k73 rfl rfl ?_
      refine rx_p (L2 := [some (.ref q0), o53, o54, some (.int a3), some (.int a4), o55, o56, some (.int x33), o57, some (.int x58), some (.int x59), some (.int x60), some (.long x61), o68, some (.int r66), o64]) (S2 := [.long x61, .long (m71.2 (q0 + 6) r66.toNatClampNeg), .int r66, .ref (q0 + 6)]) (pc2 := 252) op71_250 rfl rfl ?_
      refine rx_p (L2 := [some (.ref q0), o53, o54, some (.int a3), some (.int a4), o55, o56, some (.int x33), o57, some (.int x58), some (.int x59), some (.int x60), some (.long x61), o68, some (.int r66), o64]) (S2 := [.long ((m71.2 (q0 + 6) r66.toNatClampNeg) ||| x61), .int r66, .ref (q0 + 6)]) (pc2 := 253) op71_252 rfl rfl ?_
      obtain ⟨k75, h⟩ := rq_chk h
      obtain ⟨m74, em74, h⟩ := rq_bv h
      refine rx_ls (m2 := m74) (pc2 := 254) op71_253 (hq0.2.2.2.2.2.2.1) k75 rfl em74 rfl ?_
      refine rx_p (L2 := [some (.ref q0), o53, o54, some (.int a3), some (.int a4), o55, o56, some (.int x33), o57, some (.int x58), some (.int x59), some (.int x60), some (.long x61), o68, some (.int r66), o64]) (S2 := [.ref q0]) (pc2 := 255) op71_254 rfl rfl ?_
      refine rx_gf (v := .ref (q0 + 7)) (pc2 := 258) op71_255 (hq0.1) rfl rfl rfl ?_
      refine rx_p (L2 := [some (.ref q0), o53, o54, some (.int a3), some (.int a4), o55, o56, some (.int x33), o57, some (.int x58), some (.int x59), some (.int x60), some (.long x61), o68, some (.int r66), o64]) (S2 := [.int r66, .ref (q0 + 7)]) (pc2 := 260) op71_258 rfl rfl ?_
      refine rx_p (L2 := [some (.ref q0), o53, o54, some (.int a3), some (.int a4), o55, o56, some (.int x33), o57, some (.int x58), some (.int x59), some (.int x60), some (.long x61), o68, some (.int r66), o64]) (S2 := [.ref q0, .int r66, .ref (q0 + 7)]) (pc2 := 261) op71_260 rfl rfl ?_
      refine rx_gf (v := .ref (q0 + 7)) (pc2 := 264) op71_261 (hq0.1) rfl rfl rfl ?_
      refine rx_p (L2 := [some (.ref q0), o53, o54, some (.int a3), some (.int a4), o55, o56, some (.int x33), o57, some (.int x58), some (.int x59), some (.int x60), some (.long x61), o68, some (.int r66), o64]) (S2 := [.int r66, .ref (q0 + 7), .int r66, .ref (q0 + 7)]) (pc2 := 266) op71_264 rfl rfl ?_
      obtain ⟨k76, h⟩ := rq_chk h
      refine rx_ia (pc2 := 267) op71_266 (rn_shlt (hq0.2.2.2.2.2.2.2)) (hq0.2.2.2.2.2.2.2) k76 rfl rfl ?_
      refine rx_p (L2 := [some (.ref q0), o53, o54, some (.int a3), some (.int a4), o55, o56, some (.int x33), o57, some (.int x58), some (.int x59), some (.int x60), some (.long x61), o68, some (.int r66), o64]) (S2 := [.int a3, .int (m74.1 (q0 + 7) r66.toNatClampNeg), .int r66, .ref (q0 + 7)]) (pc2 := 268) op71_267 rfl rfl ?_
      obtain ⟨⟨r78, m77⟩, f79, h⟩ := rq_bind h
      try dsimp only at h
      refine ry_is (vs := [.int (m74.1 (q0 + 7) r66.toNatClampNeg), .int a3]) (T := [.int r66, .ref (q0 + 7)]) (pc2 := 271) op71_268 (by decide) ms_21 (by decide) rfl rfl (Nat.le_of_ble_eq_true rfl) (Nat.le_of_ble_eq_true rfl) (ja_min_ok xs (by omega)  f79) rfl ?_
      show rn_R _ _ _ _ _ [.int r78, .int r66, .ref (q0 + 7)] _ _ _
      obtain ⟨k81, h⟩ := rq_chk h
      obtain ⟨m80, em80, h⟩ := rq_bv h
      refine rx_is (m2 := m80) (pc2 := 272) op71_271 (hq0.2.2.2.2.2.2.2) k81 rfl em80 rfl ?_
      obtain rfl := Option.some.inj h
      exact ry_rv op71_272 ms_71 rfl
  refine ry_if_ge (tgt := 89) (pc2 := 79) op71_76 (by decide) (by decide) rfl (fun b22 => ?_) (fun b22 => ?_)
  · have gc83 := (if_pos b22).symm.trans gc83
    refine rx_p (L2 := [some (.ref q0), some (.ref q1), some (.ref q2), some (.int a3), some (.int a4), some (.int x1), some (.int x8), some (.int x21), o10, o11, o12, o13, o14, o15, o16, o17]) (S2 := [.int x21]) (pc2 := 81) op71_79 rfl rfl ?_
    refine rx_p (L2 := [some (.ref q0), some (.ref q1), some (.ref q2), some (.int a3), some (.int a4), some (.int x1), some (.int x8), some (.int x21), o10, o11, o12, o13, o14, o15, o16, o17]) (S2 := [.ref q1, .int x21]) (pc2 := 82) op71_81 rfl rfl ?_
    refine rx_gf (v := .int (m18.1 q1 1)) (pc2 := 85) op71_82 hq1 rfl rfl rfl ?_
    refine rx_p (L2 := [some (.ref q0), some (.ref q1), some (.ref q2), some (.int a3), some (.int a4), some (.int x1), some (.int x8), some (.int x21), o10, o11, o12, o13, o14, o15, o16, o17]) (S2 := [.int (x21 + (m18.1 q1 1))]) (pc2 := 86) op71_85 rfl rfl ?_
    refine ry_go (tgt := 91) op71_86 (by decide) (by decide) ?_
    cases gc83
    exact c83 _ _ _ _ _ _ _ _ _ _
  · have gc83 := (if_neg b22).symm.trans gc83
    refine rx_p (L2 := [some (.ref q0), some (.ref q1), some (.ref q2), some (.int a3), some (.int a4), some (.int x1), some (.int x8), some (.int x21), o10, o11, o12, o13, o14, o15, o16, o17]) (S2 := [.int x21]) (pc2 := 91) op71_89 rfl rfl ?_
    cases gc83
    exact c83 _ _ _ _ _ _ _ _ _ _
/-! se_arrange -/
theorem op70_0 : rn_op 70 0 = some (.iload_n 3, 1, 0, 0, 0) := by decide +kernel
theorem op70_1 : rn_op 70 1 = some (.aload_n 0, 1, 0, 0, 0) := by decide +kernel
theorem op70_2 : rn_op 70 2 = some (.getfield 12, 3, 4, 0, 3) := by decide +kernel
theorem op70_5 : rn_op 70 5 = some (.getfield 101, 3, 1, 1, 0) := by decide +kernel
theorem op70_8 : rn_op 70 8 = some (.if_icmp .lt 20, 3, 0, 0, 0) := by decide +kernel
theorem op70_11 : rn_op 70 11 = some (.aload_n 1, 1, 0, 0, 0) := by decide +kernel
theorem op70_12 : rn_op 70 12 = some (.aload_n 0, 1, 0, 0, 0) := by decide +kernel
theorem op70_13 : rn_op 70 13 = some (.getfield 12, 3, 4, 0, 3) := by decide +kernel
theorem op70_16 : rn_op 70 16 = some (.aload_n 0, 1, 0, 0, 0) := by decide +kernel
theorem op70_17 : rn_op 70 17 = some (.getfield 28, 3, 4, 2, 3) := by decide +kernel
theorem op70_20 : rn_op 70 20 = some (.iload 5, 2, 0, 0, 0) := by decide +kernel
theorem op70_22 : rn_op 70 22 = some (.iload 6, 2, 0, 0, 0) := by decide +kernel
theorem op70_24 : rn_op 70 24 = some (.invokevirtual 189, 3, 71, 5, 9) := by decide +kernel
theorem op70_27 : rn_op 70 27 = some (.return_, 1, 0, 0, 0) := by decide +kernel
theorem op70_28 : rn_op 70 28 = some (.iconst 0, 1, 0, 0, 0) := by decide +kernel
theorem op70_29 : rn_op 70 29 = some (.istore 7, 2, 0, 0, 0) := by decide +kernel
theorem op70_31 : rn_op 70 31 = some (.iload 7, 2, 0, 0, 0) := by decide +kernel
theorem op70_33 : rn_op 70 33 = some (.aload_n 0, 1, 0, 0, 0) := by decide +kernel
theorem op70_34 : rn_op 70 34 = some (.getfield 12, 3, 4, 0, 3) := by decide +kernel
theorem op70_37 : rn_op 70 37 = some (.getfield 101, 3, 1, 1, 0) := by decide +kernel
theorem op70_40 : rn_op 70 40 = some (.if_icmp .ge 71, 3, 0, 0, 0) := by decide +kernel
theorem op70_43 : rn_op 70 43 = some (.iload 4, 2, 0, 0, 0) := by decide +kernel
theorem op70_45 : rn_op 70 45 = some (.iload 7, 2, 0, 0, 0) := by decide +kernel
theorem op70_47 : rn_op 70 47 = some (.ishr, 1, 0, 0, 0) := by decide +kernel
theorem op70_48 : rn_op 70 48 = some (.iconst 1, 1, 0, 0, 0) := by decide +kernel
theorem op70_49 : rn_op 70 49 = some (.iand, 1, 0, 0, 0) := by decide +kernel
theorem op70_50 : rn_op 70 50 = some (.ifCond .ne 55, 3, 0, 0, 0) := by decide +kernel
theorem op70_53 : rn_op 70 53 = some (.aload_n 0, 1, 0, 0, 0) := by decide +kernel
theorem op70_54 : rn_op 70 54 = some (.getfield 12, 3, 4, 0, 3) := by decide +kernel
theorem op70_57 : rn_op 70 57 = some (.getfield 193, 3, 1, 7, 0) := by decide +kernel
theorem op70_60 : rn_op 70 60 = some (.iconst 1, 1, 0, 0, 0) := by decide +kernel
theorem op70_61 : rn_op 70 61 = some (.if_icmp .eq 9, 3, 0, 0, 0) := by decide +kernel
theorem op70_64 : rn_op 70 64 = some (.iload 7, 2, 0, 0, 0) := by decide +kernel
theorem op70_66 : rn_op 70 66 = some (.iload_n 3, 1, 0, 0, 0) := by decide +kernel
theorem op70_67 : rn_op 70 67 = some (.if_icmp .ne 38, 3, 0, 0, 0) := by decide +kernel
theorem op70_70 : rn_op 70 70 = some (.aload_n 0, 1, 0, 0, 0) := by decide +kernel
theorem op70_71 : rn_op 70 71 = some (.aload_n 1, 1, 0, 0, 0) := by decide +kernel
theorem op70_72 : rn_op 70 72 = some (.iload_n 2, 1, 0, 0, 0) := by decide +kernel
theorem op70_73 : rn_op 70 73 = some (.iload_n 3, 1, 0, 0, 0) := by decide +kernel
theorem op70_74 : rn_op 70 74 = some (.iconst 1, 1, 0, 0, 0) := by decide +kernel
theorem op70_75 : rn_op 70 75 = some (.iadd, 1, 0, 0, 0) := by decide +kernel
theorem op70_76 : rn_op 70 76 = some (.iload 4, 2, 0, 0, 0) := by decide +kernel
theorem op70_78 : rn_op 70 78 = some (.iconst 1, 1, 0, 0, 0) := by decide +kernel
theorem op70_79 : rn_op 70 79 = some (.iload 7, 2, 0, 0, 0) := by decide +kernel
theorem op70_81 : rn_op 70 81 = some (.ishl, 1, 0, 0, 0) := by decide +kernel
theorem op70_82 : rn_op 70 82 = some (.ior, 1, 0, 0, 0) := by decide +kernel
theorem op70_83 : rn_op 70 83 = some (.iload 5, 2, 0, 0, 0) := by decide +kernel
theorem op70_85 : rn_op 70 85 = some (.iconst 4, 1, 0, 0, 0) := by decide +kernel
theorem op70_86 : rn_op 70 86 = some (.ishl, 1, 0, 0, 0) := by decide +kernel
theorem op70_87 : rn_op 70 87 = some (.aload_n 0, 1, 0, 0, 0) := by decide +kernel
theorem op70_88 : rn_op 70 88 = some (.getfield 21, 3, 4, 1, 3) := by decide +kernel
theorem op70_91 : rn_op 70 91 = some (.getfield 120, 3, 7, 3, 3) := by decide +kernel
theorem op70_94 : rn_op 70 94 = some (.iload_n 2, 1, 0, 0, 0) := by decide +kernel
theorem op70_95 : rn_op 70 95 = some (.iload 7, 2, 0, 0, 0) := by decide +kernel
theorem op70_97 : rn_op 70 97 = some (.iadd, 1, 0, 0, 0) := by decide +kernel
theorem op70_98 : rn_op 70 98 = some (.iaload, 1, 0, 0, 0) := by decide +kernel
theorem op70_99 : rn_op 70 99 = some (.ior, 1, 0, 0, 0) := by decide +kernel
theorem op70_100 : rn_op 70 100 = some (.iload 6, 2, 0, 0, 0) := by decide +kernel
theorem op70_102 : rn_op 70 102 = some (.invokevirtual 185, 3, 70, 7, 4) := by decide +kernel
theorem op70_105 : rn_op 70 105 = some (.iinc 7 1, 3, 0, 0, 0) := by decide +kernel
theorem op70_108 : rn_op 70 108 = some (.goto (-77), 3, 0, 0, 0) := by decide +kernel
theorem op70_111 : rn_op 70 111 = some (.return_, 1, 0, 0, 0) := by decide +kernel
def se_arrange_l31 (rec : Nat → Int32 → Int32 → Int32 → Int32 → Int32 → rn_Mem → Option (rn_Mem)) (q1 : Nat) (a2 : Int32) (a3 : Int32) (a4 : Int32) (a5 : Int32) (a6 : Int32) : Nat → Int32 → rn_Mem → Option (rn_Mem)
  | 0, _, _ => none
  | n + 1, a7, m =>
    if a7 < (m.1 52 1) then
      (show Option (rn_Mem) from
        if ((a4 >>> (a7 &&& 31)) &&& 1) = 0 then
          if (m.1 52 7) = 1 then
            if rn_in (a2 + a7) 48 = true then
              (rec q1 a2 (a3 + 1) (a4 ||| ((1 : Int32) <<< (a7 &&& 31))) ((a5 <<< (4 &&& 31)) ||| (m.1 56 (a2 + a7).toNatClampNeg)) a6 m).bind fun m6 =>
              some (m6)
            else none
          else
            if a7 = a3 then
              if rn_in (a2 + a7) 48 = true then
                (rec q1 a2 (a3 + 1) (a4 ||| ((1 : Int32) <<< (a7 &&& 31))) ((a5 <<< (4 &&& 31)) ||| (m.1 56 (a2 + a7).toNatClampNeg)) a6 m).bind fun m10 =>
                some (m10)
              else none
            else
              some (m)
        else
          some (m)).bind fun m12 =>
      (some (a7 + 1)).bind fun (x13 : Int32) =>
      se_arrange_l31 rec q1 a2 a3 a4 a5 a6 n x13 m12
    else
      some m
def se_arrange_1 (rec : Nat → Int32 → Int32 → Int32 → Int32 → Int32 → rn_Mem → Option (rn_Mem)) (n : Nat) (q1 : Nat) (a2 : Int32) (a3 : Int32) (a4 : Int32) (a5 : Int32) (a6 : Int32) (m : rn_Mem) : Option (rn_Mem) :=
  if a3 < (m.1 52 1) then
    (se_arrange_l31 rec q1 a2 a3 a4 a5 a6 n 0 m).bind fun m15 =>
    some m15
  else
    (wa_note n q1 52 57 a5 a6 m).bind fun m25 =>
    some m25
def se_arrange (n : Nat) : Nat → Nat → Int32 → Int32 → Int32 → Int32 → Int32 → rn_Mem → Option (rn_Mem)
  | 0 => fun _ _ _ _ _ _ _ => none
  | k + 1 => se_arrange_1 (se_arrange n k) n
set_option maxHeartbeats 4000000 in
set_option maxRecDepth 20000 in
theorem se_arrange_l31_ok (xs : List Int32) {d : Nat} (hd : 3 ≤ d) {rec : Nat → Int32 → Int32 → Int32 → Int32 → Int32 → rn_Mem → Option (rn_Mem)} (hrec : ∀ {q1 : Nat} {a2 : Int32} {a3 : Int32} {a4 : Int32} {a5 : Int32} {a6 : Int32} {mI mO : rn_Mem} , sA_Ways q1 → rec q1 a2 a3 a4 a5 a6 mI = some mO → rn_R xs d 70 0 (rn_ent 8 [.ref 51, .ref q1, .int a2, .int a3, .int a4, .int a5, .int a6]) [] (rn_SH, mI) none (rn_SH, mO)) {q1 : Nat} {a2 : Int32} {a3 : Int32} {a4 : Int32} {a5 : Int32} {a6 : Int32} {r : Option Value} {τ : rn_H} {out : rn_Mem} (hr : ∀ (mO : rn_Mem), out = mO → ∀ (o0 o1 o2 o3 o4 o5 o6 o7 : Option Value), rn_R xs (d + 1) 70 111 [o0, o1, o2, o3, o4, o5, o6, o7] [] (rn_SH, mO) r τ) : ∀ (n : Nat) (a7 : Int32) (m : rn_Mem), sA_Ways q1 → se_arrange_l31 rec q1 a2 a3 a4 a5 a6 n a7 m = some out → rn_R xs (d + 1) 70 31 [some (.ref 51), some (.ref q1), some (.int a2), some (.int a3), some (.int a4), some (.int a5), some (.int a6), some (.int a7)] [] (rn_SH, m) r τ := by
  intro n
  induction n with
  | zero =>
    intro _ _ _ h
    cases h
  | succ n ih =>
    intro a7 m hq1 h
    unfold se_arrange_l31 at h
    try dsimp only at h
    refine rx_p (L2 := [some (.ref 51), some (.ref q1), some (.int a2), some (.int a3), some (.int a4), some (.int a5), some (.int a6), some (.int a7)]) (S2 := [.int a7]) (pc2 := 33) op70_31 rfl rfl ?_
    refine rx_p (L2 := [some (.ref 51), some (.ref q1), some (.int a2), some (.int a3), some (.int a4), some (.int a5), some (.int a6), some (.int a7)]) (S2 := [.ref 51, .int a7]) (pc2 := 34) op70_33 rfl rfl ?_
    refine rx_gf (v := .ref 52) (pc2 := 37) op70_34 sp_51 rfl rfl rfl ?_
    refine rx_gf (v := .int (m.1 52 1)) (pc2 := 40) op70_37 sp_52 rfl rfl rfl ?_
    refine ry_ic_ge (tgt := 111) (pc2 := 43) op70_40 (by decide) (by decide) rfl (fun b2 => ?_) (fun b2 => ?_)
    · have h := (if_pos b2).symm.trans h
      refine rx_p (L2 := [some (.ref 51), some (.ref q1), some (.int a2), some (.int a3), some (.int a4), some (.int a5), some (.int a6), some (.int a7)]) (S2 := [.int a4]) (pc2 := 45) op70_43 rfl rfl ?_
      refine rx_p (L2 := [some (.ref 51), some (.ref q1), some (.int a2), some (.int a3), some (.int a4), some (.int a5), some (.int a6), some (.int a7)]) (S2 := [.int a7, .int a4]) (pc2 := 47) op70_45 rfl rfl ?_
      refine rx_p (L2 := [some (.ref 51), some (.ref q1), some (.int a2), some (.int a3), some (.int a4), some (.int a5), some (.int a6), some (.int a7)]) (S2 := [.int (a4 >>> (a7 &&& 31))]) (pc2 := 48) op70_47 rfl rfl ?_
      refine rx_ic (v := 1) (pc2 := 49) op70_48 (by decide) rfl ?_
      refine rx_p (L2 := [some (.ref 51), some (.ref q1), some (.int a2), some (.int a3), some (.int a4), some (.int a5), some (.int a6), some (.int a7)]) (S2 := [.int ((a4 >>> (a7 &&& 31)) &&& 1)]) (pc2 := 50) op70_49 rfl rfl ?_
      obtain ⟨m12, gc14, h⟩ := rq_bind h
      try dsimp only at h
      have c14 : ∀ (_ : Unit), rn_R xs (d + 1) 70 105 [some (.ref 51), some (.ref q1), some (.int a2), some (.int a3), some (.int a4), some (.int a5), some (.int a6), some (.int a7)] [] (rn_SH, m12) r τ := by
        intro _
        obtain ⟨x13, ex13, h⟩ := rq_bv h
        refine rx_inc (w := 1) (v := x13) (L2 := [some (.ref 51), some (.ref q1), some (.int a2), some (.int a3), some (.int a4), some (.int a5), some (.int a6), some (.int x13)]) (pc2 := 108) op70_105 rfl (by decide) ex13 rfl rfl ?_
        refine ry_go (tgt := 31) op70_108 (by decide) (by decide) ?_
        exact ih _ _ hq1 h
      refine ry_if_ne (tgt := 105) (pc2 := 53) op70_50 (by decide) (by decide) rfl (fun b3 => ?_) (fun b3 => ?_)
      · have gc14 := (if_pos b3).symm.trans gc14
        refine rx_p (L2 := [some (.ref 51), some (.ref q1), some (.int a2), some (.int a3), some (.int a4), some (.int a5), some (.int a6), some (.int a7)]) (S2 := [.ref 51]) (pc2 := 54) op70_53 rfl rfl ?_
        refine rx_gf (v := .ref 52) (pc2 := 57) op70_54 sp_51 rfl rfl rfl ?_
        refine rx_gf (v := .int (m.1 52 7)) (pc2 := 60) op70_57 sp_52 rfl rfl rfl ?_
        refine rx_ic (v := 1) (pc2 := 61) op70_60 (by decide) rfl ?_
        refine ry_ic_eq (tgt := 70) (pc2 := 64) op70_61 (by decide) (by decide) rfl (fun b4 => ?_) (fun b4 => ?_)
        · have gc14 := (if_pos b4).symm.trans gc14
          refine rx_p (L2 := [some (.ref 51), some (.ref q1), some (.int a2), some (.int a3), some (.int a4), some (.int a5), some (.int a6), some (.int a7)]) (S2 := [.ref 51]) (pc2 := 71) op70_70 rfl rfl ?_
          refine rx_p (L2 := [some (.ref 51), some (.ref q1), some (.int a2), some (.int a3), some (.int a4), some (.int a5), some (.int a6), some (.int a7)]) (S2 := [.ref q1, .ref 51]) (pc2 := 72) op70_71 rfl rfl ?_
          refine rx_p (L2 := [some (.ref 51), some (.ref q1), some (.int a2), some (.int a3), some (.int a4), some (.int a5), some (.int a6), some (.int a7)]) (S2 := [.int a2, .ref q1, .ref 51]) (pc2 := 73) op70_72 rfl rfl ?_
          refine rx_p (L2 := [some (.ref 51), some (.ref q1), some (.int a2), some (.int a3), some (.int a4), some (.int a5), some (.int a6), some (.int a7)]) (S2 := [.int a3, .int a2, .ref q1, .ref 51]) (pc2 := 74) op70_73 rfl rfl ?_
          refine rx_ic (v := 1) (pc2 := 75) op70_74 (by decide) rfl ?_
          refine rx_p (L2 := [some (.ref 51), some (.ref q1), some (.int a2), some (.int a3), some (.int a4), some (.int a5), some (.int a6), some (.int a7)]) (S2 := [.int (a3 + 1), .int a2, .ref q1, .ref 51]) (pc2 := 76) op70_75 rfl rfl ?_
          refine rx_p (L2 := [some (.ref 51), some (.ref q1), some (.int a2), some (.int a3), some (.int a4), some (.int a5), some (.int a6), some (.int a7)]) (S2 := [.int a4, .int (a3 + 1), .int a2, .ref q1, .ref 51]) (pc2 := 78) op70_76 rfl rfl ?_
          refine rx_ic (v := 1) (pc2 := 79) op70_78 (by decide) rfl ?_
          refine rx_p (L2 := [some (.ref 51), some (.ref q1), some (.int a2), some (.int a3), some (.int a4), some (.int a5), some (.int a6), some (.int a7)]) (S2 := [.int a7, .int 1, .int a4, .int (a3 + 1), .int a2, .ref q1, .ref 51]) (pc2 := 81) op70_79 rfl rfl ?_
          refine rx_p (L2 := [some (.ref 51), some (.ref q1), some (.int a2), some (.int a3), some (.int a4), some (.int a5), some (.int a6), some (.int a7)]) (S2 := [.int ((1 : Int32) <<< (a7 &&& 31)), .int a4, .int (a3 + 1), .int a2, .ref q1, .ref 51]) (pc2 := 82) op70_81 rfl rfl ?_
          refine rx_p (L2 := [some (.ref 51), some (.ref q1), some (.int a2), some (.int a3), some (.int a4), some (.int a5), some (.int a6), some (.int a7)]) (S2 := [.int (a4 ||| ((1 : Int32) <<< (a7 &&& 31))), .int (a3 + 1), .int a2, .ref q1, .ref 51]) (pc2 := 83) op70_82 rfl rfl ?_
          refine rx_p (L2 := [some (.ref 51), some (.ref q1), some (.int a2), some (.int a3), some (.int a4), some (.int a5), some (.int a6), some (.int a7)]) (S2 := [.int a5, .int (a4 ||| ((1 : Int32) <<< (a7 &&& 31))), .int (a3 + 1), .int a2, .ref q1, .ref 51]) (pc2 := 85) op70_83 rfl rfl ?_
          refine rx_ic (v := 4) (pc2 := 86) op70_85 (by decide) rfl ?_
          refine rx_p (L2 := [some (.ref 51), some (.ref q1), some (.int a2), some (.int a3), some (.int a4), some (.int a5), some (.int a6), some (.int a7)]) (S2 := [.int (a5 <<< (4 &&& 31)), .int (a4 ||| ((1 : Int32) <<< (a7 &&& 31))), .int (a3 + 1), .int a2, .ref q1, .ref 51]) (pc2 := 87) op70_86 rfl rfl ?_
          refine rx_p (L2 := [some (.ref 51), some (.ref q1), some (.int a2), some (.int a3), some (.int a4), some (.int a5), some (.int a6), some (.int a7)]) (S2 := [.ref 51, .int (a5 <<< (4 &&& 31)), .int (a4 ||| ((1 : Int32) <<< (a7 &&& 31))), .int (a3 + 1), .int a2, .ref q1, .ref 51]) (pc2 := 88) op70_87 rfl rfl ?_
          refine rx_gf (v := .ref 53) (pc2 := 91) op70_88 sp_51 rfl rfl rfl ?_
          refine rx_gf (v := .ref 56) (pc2 := 94) op70_91 sp_53 rfl rfl rfl ?_
          refine rx_p (L2 := [some (.ref 51), some (.ref q1), some (.int a2), some (.int a3), some (.int a4), some (.int a5), some (.int a6), some (.int a7)]) (S2 := [.int a2, .ref 56, .int (a5 <<< (4 &&& 31)), .int (a4 ||| ((1 : Int32) <<< (a7 &&& 31))), .int (a3 + 1), .int a2, .ref q1, .ref 51]) (pc2 := 95) op70_94 rfl rfl ?_
          refine rx_p (L2 := [some (.ref 51), some (.ref q1), some (.int a2), some (.int a3), some (.int a4), some (.int a5), some (.int a6), some (.int a7)]) (S2 := [.int a7, .int a2, .ref 56, .int (a5 <<< (4 &&& 31)), .int (a4 ||| ((1 : Int32) <<< (a7 &&& 31))), .int (a3 + 1), .int a2, .ref q1, .ref 51]) (pc2 := 97) op70_95 rfl rfl ?_
          refine rx_p (L2 := [some (.ref 51), some (.ref q1), some (.int a2), some (.int a3), some (.int a4), some (.int a5), some (.int a6), some (.int a7)]) (S2 := [.int (a2 + a7), .ref 56, .int (a5 <<< (4 &&& 31)), .int (a4 ||| ((1 : Int32) <<< (a7 &&& 31))), .int (a3 + 1), .int a2, .ref q1, .ref 51]) (pc2 := 98) op70_97 rfl rfl ?_
          obtain ⟨k5, gc14⟩ := rq_chk gc14
          refine rx_ia (pc2 := 99) op70_98 (rn_shlt sp_56) sp_56 k5 rfl rfl ?_
          refine rx_p (L2 := [some (.ref 51), some (.ref q1), some (.int a2), some (.int a3), some (.int a4), some (.int a5), some (.int a6), some (.int a7)]) (S2 := [.int ((a5 <<< (4 &&& 31)) ||| (m.1 56 (a2 + a7).toNatClampNeg)), .int (a4 ||| ((1 : Int32) <<< (a7 &&& 31))), .int (a3 + 1), .int a2, .ref q1, .ref 51]) (pc2 := 100) op70_99 rfl rfl ?_
          refine rx_p (L2 := [some (.ref 51), some (.ref q1), some (.int a2), some (.int a3), some (.int a4), some (.int a5), some (.int a6), some (.int a7)]) (S2 := [.int a6, .int ((a5 <<< (4 &&& 31)) ||| (m.1 56 (a2 + a7).toNatClampNeg)), .int (a4 ||| ((1 : Int32) <<< (a7 &&& 31))), .int (a3 + 1), .int a2, .ref q1, .ref 51]) (pc2 := 102) op70_100 rfl rfl ?_
          obtain ⟨m6, f7, gc14⟩ := rq_bind gc14
          try dsimp only at gc14
          refine ry_iv (p := 51) (vs := [.ref q1, .int a2, .int (a3 + 1), .int (a4 ||| ((1 : Int32) <<< (a7 &&& 31))), .int ((a5 <<< (4 &&& 31)) ||| (m.1 56 (a2 + a7).toNatClampNeg)), .int a6]) (T := []) (pc2 := 105) op70_102 ms_70 (by decide) rfl rfl (Nat.le_of_ble_eq_true rfl) (Nat.le_of_ble_eq_true rfl) sp_51 (hrec hq1 f7) rfl ?_
          show rn_R _ _ _ _ _ [] _ _ _
          cases gc14
          exact c14 ()
        · have gc14 := (if_neg b4).symm.trans gc14
          refine rx_p (L2 := [some (.ref 51), some (.ref q1), some (.int a2), some (.int a3), some (.int a4), some (.int a5), some (.int a6), some (.int a7)]) (S2 := [.int a7]) (pc2 := 66) op70_64 rfl rfl ?_
          refine rx_p (L2 := [some (.ref 51), some (.ref q1), some (.int a2), some (.int a3), some (.int a4), some (.int a5), some (.int a6), some (.int a7)]) (S2 := [.int a3, .int a7]) (pc2 := 67) op70_66 rfl rfl ?_
          refine ry_ic_ne (tgt := 105) (pc2 := 70) op70_67 (by decide) (by decide) rfl (fun b8 => ?_) (fun b8 => ?_)
          · have gc14 := (if_pos b8).symm.trans gc14
            refine rx_p (L2 := [some (.ref 51), some (.ref q1), some (.int a2), some (.int a3), some (.int a4), some (.int a5), some (.int a6), some (.int a7)]) (S2 := [.ref 51]) (pc2 := 71) op70_70 rfl rfl ?_
            refine rx_p (L2 := [some (.ref 51), some (.ref q1), some (.int a2), some (.int a3), some (.int a4), some (.int a5), some (.int a6), some (.int a7)]) (S2 := [.ref q1, .ref 51]) (pc2 := 72) op70_71 rfl rfl ?_
            refine rx_p (L2 := [some (.ref 51), some (.ref q1), some (.int a2), some (.int a3), some (.int a4), some (.int a5), some (.int a6), some (.int a7)]) (S2 := [.int a2, .ref q1, .ref 51]) (pc2 := 73) op70_72 rfl rfl ?_
            refine rx_p (L2 := [some (.ref 51), some (.ref q1), some (.int a2), some (.int a3), some (.int a4), some (.int a5), some (.int a6), some (.int a7)]) (S2 := [.int a3, .int a2, .ref q1, .ref 51]) (pc2 := 74) op70_73 rfl rfl ?_
            refine rx_ic (v := 1) (pc2 := 75) op70_74 (by decide) rfl ?_
            refine rx_p (L2 := [some (.ref 51), some (.ref q1), some (.int a2), some (.int a3), some (.int a4), some (.int a5), some (.int a6), some (.int a7)]) (S2 := [.int (a3 + 1), .int a2, .ref q1, .ref 51]) (pc2 := 76) op70_75 rfl rfl ?_
            refine rx_p (L2 := [some (.ref 51), some (.ref q1), some (.int a2), some (.int a3), some (.int a4), some (.int a5), some (.int a6), some (.int a7)]) (S2 := [.int a4, .int (a3 + 1), .int a2, .ref q1, .ref 51]) (pc2 := 78) op70_76 rfl rfl ?_
            refine rx_ic (v := 1) (pc2 := 79) op70_78 (by decide) rfl ?_
            refine rx_p (L2 := [some (.ref 51), some (.ref q1), some (.int a2), some (.int a3), some (.int a4), some (.int a5), some (.int a6), some (.int a7)]) (S2 := [.int a7, .int 1, .int a4, .int (a3 + 1), .int a2, .ref q1, .ref 51]) (pc2 := 81) op70_79 rfl rfl ?_
            refine rx_p (L2 := [some (.ref 51), some (.ref q1), some (.int a2), some (.int a3), some (.int a4), some (.int a5), some (.int a6), some (.int a7)]) (S2 := [.int ((1 : Int32) <<< (a7 &&& 31)), .int a4, .int (a3 + 1), .int a2, .ref q1, .ref 51]) (pc2 := 82) op70_81 rfl rfl ?_
            refine rx_p (L2 := [some (.ref 51), some (.ref q1), some (.int a2), some (.int a3), some (.int a4), some (.int a5), some (.int a6), some (.int a7)]) (S2 := [.int (a4 ||| ((1 : Int32) <<< (a7 &&& 31))), .int (a3 + 1), .int a2, .ref q1, .ref 51]) (pc2 := 83) op70_82 rfl rfl ?_
            refine rx_p (L2 := [some (.ref 51), some (.ref q1), some (.int a2), some (.int a3), some (.int a4), some (.int a5), some (.int a6), some (.int a7)]) (S2 := [.int a5, .int (a4 ||| ((1 : Int32) <<< (a7 &&& 31))), .int (a3 + 1), .int a2, .ref q1, .ref 51]) (pc2 := 85) op70_83 rfl rfl ?_
            refine rx_ic (v := 4) (pc2 := 86) op70_85 (by decide) rfl ?_
            refine rx_p (L2 := [some (.ref 51), some (.ref q1), some (.int a2), some (.int a3), some (.int a4), some (.int a5), some (.int a6), some (.int a7)]) (S2 := [.int (a5 <<< (4 &&& 31)), .int (a4 ||| ((1 : Int32) <<< (a7 &&& 31))), .int (a3 + 1), .int a2, .ref q1, .ref 51]) (pc2 := 87) op70_86 rfl rfl ?_
            refine rx_p (L2 := [some (.ref 51), some (.ref q1), some (.int a2), some (.int a3), some (.int a4), some (.int a5), some (.int a6), some (.int a7)]) (S2 := [.ref 51, .int (a5 <<< (4 &&& 31)), .int (a4 ||| ((1 : Int32) <<< (a7 &&& 31))), .int (a3 + 1), .int a2, .ref q1, .ref 51]) (pc2 := 88) op70_87 rfl rfl ?_
            refine rx_gf (v := .ref 53) (pc2 := 91) op70_88 sp_51 rfl rfl rfl ?_
            refine rx_gf (v := .ref 56) (pc2 := 94) op70_91 sp_53 rfl rfl rfl ?_
            refine rx_p (L2 := [some (.ref 51), some (.ref q1), some (.int a2), some (.int a3), some (.int a4), some (.int a5), some (.int a6), some (.int a7)]) (S2 := [.int a2, .ref 56, .int (a5 <<< (4 &&& 31)), .int (a4 ||| ((1 : Int32) <<< (a7 &&& 31))), .int (a3 + 1), .int a2, .ref q1, .ref 51]) (pc2 := 95) op70_94 rfl rfl ?_
            refine rx_p (L2 := [some (.ref 51), some (.ref q1), some (.int a2), some (.int a3), some (.int a4), some (.int a5), some (.int a6), some (.int a7)]) (S2 := [.int a7, .int a2, .ref 56, .int (a5 <<< (4 &&& 31)), .int (a4 ||| ((1 : Int32) <<< (a7 &&& 31))), .int (a3 + 1), .int a2, .ref q1, .ref 51]) (pc2 := 97) op70_95 rfl rfl ?_
            refine rx_p (L2 := [some (.ref 51), some (.ref q1), some (.int a2), some (.int a3), some (.int a4), some (.int a5), some (.int a6), some (.int a7)]) (S2 := [.int (a2 + a7), .ref 56, .int (a5 <<< (4 &&& 31)), .int (a4 ||| ((1 : Int32) <<< (a7 &&& 31))), .int (a3 + 1), .int a2, .ref q1, .ref 51]) (pc2 := 98) op70_97 rfl rfl ?_
            obtain ⟨k9, gc14⟩ := rq_chk gc14
            refine rx_ia (pc2 := 99) op70_98 (rn_shlt sp_56) sp_56 k9 rfl rfl ?_
            refine rx_p (L2 := [some (.ref 51), some (.ref q1), some (.int a2), some (.int a3), some (.int a4), some (.int a5), some (.int a6), some (.int a7)]) (S2 := [.int ((a5 <<< (4 &&& 31)) ||| (m.1 56 (a2 + a7).toNatClampNeg)), .int (a4 ||| ((1 : Int32) <<< (a7 &&& 31))), .int (a3 + 1), .int a2, .ref q1, .ref 51]) (pc2 := 100) op70_99 rfl rfl ?_
            refine rx_p (L2 := [some (.ref 51), some (.ref q1), some (.int a2), some (.int a3), some (.int a4), some (.int a5), some (.int a6), some (.int a7)]) (S2 := [.int a6, .int ((a5 <<< (4 &&& 31)) ||| (m.1 56 (a2 + a7).toNatClampNeg)), .int (a4 ||| ((1 : Int32) <<< (a7 &&& 31))), .int (a3 + 1), .int a2, .ref q1, .ref 51]) (pc2 := 102) op70_100 rfl rfl ?_
            obtain ⟨m10, f11, gc14⟩ := rq_bind gc14
            try dsimp only at gc14
            refine ry_iv (p := 51) (vs := [.ref q1, .int a2, .int (a3 + 1), .int (a4 ||| ((1 : Int32) <<< (a7 &&& 31))), .int ((a5 <<< (4 &&& 31)) ||| (m.1 56 (a2 + a7).toNatClampNeg)), .int a6]) (T := []) (pc2 := 105) op70_102 ms_70 (by decide) rfl rfl (Nat.le_of_ble_eq_true rfl) (Nat.le_of_ble_eq_true rfl) sp_51 (hrec hq1 f11) rfl ?_
            show rn_R _ _ _ _ _ [] _ _ _
            cases gc14
            exact c14 ()
          · have gc14 := (if_neg b8).symm.trans gc14
            cases gc14
            exact c14 ()
      · have gc14 := (if_neg b3).symm.trans gc14
        cases gc14
        exact c14 ()
    · have h := (if_neg b2).symm.trans h
      cases h
      exact hr _ rfl _ _ _ _ _ _ _ _
set_option maxHeartbeats 4000000 in
set_option maxRecDepth 20000 in
theorem se_arrange_1_ok (xs : List Int32) {d : Nat} (hd : 3 ≤ d) {rec : Nat → Int32 → Int32 → Int32 → Int32 → Int32 → rn_Mem → Option (rn_Mem)} (hrec : ∀ {q1 : Nat} {a2 : Int32} {a3 : Int32} {a4 : Int32} {a5 : Int32} {a6 : Int32} {mI mO : rn_Mem} , sA_Ways q1 → rec q1 a2 a3 a4 a5 a6 mI = some mO → rn_R xs d 70 0 (rn_ent 8 [.ref 51, .ref q1, .int a2, .int a3, .int a4, .int a5, .int a6]) [] (rn_SH, mI) none (rn_SH, mO)) {n : Nat} {q1 : Nat} {a2 : Int32} {a3 : Int32} {a4 : Int32} {a5 : Int32} {a6 : Int32} {m mO : rn_Mem} (hq1 : sA_Ways q1) (h : se_arrange_1 rec n q1 a2 a3 a4 a5 a6 m = some mO) : rn_R xs (d + 1) 70 0 (rn_ent 8 [.ref 51, .ref q1, .int a2, .int a3, .int a4, .int a5, .int a6]) [] (rn_SH, m) none (rn_SH, mO) := by
  unfold se_arrange_1 at h
  show rn_R xs (d + 1) 70 0 [some (.ref 51), some (.ref q1), some (.int a2), some (.int a3), some (.int a4), some (.int a5), some (.int a6), none] [] (rn_SH, m) none (rn_SH, mO)
  refine rx_p (L2 := [some (.ref 51), some (.ref q1), some (.int a2), some (.int a3), some (.int a4), some (.int a5), some (.int a6), none]) (S2 := [.int a3]) (pc2 := 1) op70_0 rfl rfl ?_
  refine rx_p (L2 := [some (.ref 51), some (.ref q1), some (.int a2), some (.int a3), some (.int a4), some (.int a5), some (.int a6), none]) (S2 := [.ref 51, .int a3]) (pc2 := 2) op70_1 rfl rfl ?_
  refine rx_gf (v := .ref 52) (pc2 := 5) op70_2 sp_51 rfl rfl rfl ?_
  refine rx_gf (v := .int (m.1 52 1)) (pc2 := 8) op70_5 sp_52 rfl rfl rfl ?_
  refine ry_ic_lt (tgt := 28) (pc2 := 11) op70_8 (by decide) (by decide) rfl (fun b1 => ?_) (fun b1 => ?_)
  · have h := (if_pos b1).symm.trans h
    refine rx_ic (v := 0) (pc2 := 29) op70_28 (by decide) rfl ?_
    refine rx_s (L2 := [some (.ref 51), some (.ref q1), some (.int a2), some (.int a3), some (.int a4), some (.int a5), some (.int a6), some (.int 0)]) (pc2 := 31) op70_29 rfl rfl rfl ?_
    obtain ⟨m15, f24, h⟩ := rq_bind h
    refine se_arrange_l31_ok xs hd hrec (fun m0 eq => ?_) _ _ _ hq1 f24
    subst eq
    try dsimp only at h
    intro o16 o17 o18 o19 o20 o21 o22 o23
    obtain rfl := Option.some.inj h
    exact ry_rv op70_111 ms_70 rfl
  · have h := (if_neg b1).symm.trans h
    refine rx_p (L2 := [some (.ref 51), some (.ref q1), some (.int a2), some (.int a3), some (.int a4), some (.int a5), some (.int a6), none]) (S2 := [.ref q1]) (pc2 := 12) op70_11 rfl rfl ?_
    refine rx_p (L2 := [some (.ref 51), some (.ref q1), some (.int a2), some (.int a3), some (.int a4), some (.int a5), some (.int a6), none]) (S2 := [.ref 51, .ref q1]) (pc2 := 13) op70_12 rfl rfl ?_
    refine rx_gf (v := .ref 52) (pc2 := 16) op70_13 sp_51 rfl rfl rfl ?_
    refine rx_p (L2 := [some (.ref 51), some (.ref q1), some (.int a2), some (.int a3), some (.int a4), some (.int a5), some (.int a6), none]) (S2 := [.ref 51, .ref 52, .ref q1]) (pc2 := 17) op70_16 rfl rfl ?_
    refine rx_gf (v := .ref 57) (pc2 := 20) op70_17 sp_51 rfl rfl rfl ?_
    refine rx_p (L2 := [some (.ref 51), some (.ref q1), some (.int a2), some (.int a3), some (.int a4), some (.int a5), some (.int a6), none]) (S2 := [.int a5, .ref 57, .ref 52, .ref q1]) (pc2 := 22) op70_20 rfl rfl ?_
    refine rx_p (L2 := [some (.ref 51), some (.ref q1), some (.int a2), some (.int a3), some (.int a4), some (.int a5), some (.int a6), none]) (S2 := [.int a6, .int a5, .ref 57, .ref 52, .ref q1]) (pc2 := 24) op70_22 rfl rfl ?_
    obtain ⟨m25, f26, h⟩ := rq_bind h
    try dsimp only at h
    refine ry_iv (p := q1) (vs := [.ref 52, .ref 57, .int a5, .int a6]) (T := []) (pc2 := 27) op70_24 ms_71 (by decide) rfl rfl (Nat.le_of_ble_eq_true rfl) (Nat.le_of_ble_eq_true rfl) (hq1.1) (wa_note_ok xs (by omega) hq1 sa_52 sa_57 f26) rfl ?_
    show rn_R _ _ _ _ _ [] _ _ _
    obtain rfl := Option.some.inj h
    exact ry_rv op70_27 ms_70 rfl
set_option maxHeartbeats 4000000 in
set_option maxRecDepth 20000 in
theorem se_arrange_ok (xs : List Int32) : ∀ (k : Nat) {d : Nat} (hd : 1 * k + 3 ≤ d) {n : Nat} {q1 : Nat} {a2 : Int32} {a3 : Int32} {a4 : Int32} {a5 : Int32} {a6 : Int32} {m mO : rn_Mem} (hq1 : sA_Ways q1) (h : se_arrange n k q1 a2 a3 a4 a5 a6 m = some mO), rn_R xs d 70 0 (rn_ent 8 [.ref 51, .ref q1, .int a2, .int a3, .int a4, .int a5, .int a6]) [] (rn_SH, m) none (rn_SH, mO)
  | 0, d, hd, n, q1, a2, a3, a4, a5, a6, m, mO, hq1, h => by cases h
  | k + 1, d, hd, n, q1, a2, a3, a4, a5, a6, m, mO, hq1, h => by
    obtain ⟨d, rfl⟩ : ∃ e, d = e + 1 := ⟨d - 1, by omega⟩
    exact se_arrange_1_ok xs (by omega) (fun hq1 h => se_arrange_ok xs k (by omega) hq1 h) hq1 h
/-! se_gather -/
theorem op67_0 : rn_op 67 0 = some (.aload_n 0, 1, 0, 0, 0) := by decide +kernel
theorem op67_1 : rn_op 67 1 = some (.getfield 12, 3, 4, 0, 3) := by decide +kernel
theorem op67_4 : rn_op 67 4 = some (.getfield 166, 3, 1, 5, 0) := by decide +kernel
theorem op67_7 : rn_op 67 7 = some (.iconst 1, 1, 0, 0, 0) := by decide +kernel
theorem op67_8 : rn_op 67 8 = some (.if_icmp .ne 13, 3, 0, 0, 0) := by decide +kernel
theorem op67_11 : rn_op 67 11 = some (.aload_n 0, 1, 0, 0, 0) := by decide +kernel
theorem op67_12 : rn_op 67 12 = some (.getfield 28, 3, 4, 2, 3) := by decide +kernel
theorem op67_15 : rn_op 67 15 = some (.invokevirtual 169, 3, 68, 1, 0) := by decide +kernel
theorem op67_18 : rn_op 67 18 = some (.goto 5, 3, 0, 0, 0) := by decide +kernel
theorem op67_21 : rn_op 67 21 = some (.ldc 172, 2, 65535, 0, 0) := by decide +kernel
theorem op67_23 : rn_op 67 23 = some (.istore_n 1, 1, 0, 0, 0) := by decide +kernel
theorem op67_24 : rn_op 67 24 = some (.iconst 0, 1, 0, 0, 0) := by decide +kernel
theorem op67_25 : rn_op 67 25 = some (.istore_n 2, 1, 0, 0, 0) := by decide +kernel
theorem op67_26 : rn_op 67 26 = some (.aload_n 0, 1, 0, 0, 0) := by decide +kernel
theorem op67_27 : rn_op 67 27 = some (.iconst 0, 1, 0, 0, 0) := by decide +kernel
theorem op67_28 : rn_op 67 28 = some (.putfield 173, 3, 4, 9, 0) := by decide +kernel
theorem op67_31 : rn_op 67 31 = some (.iconst 0, 1, 0, 0, 0) := by decide +kernel
theorem op67_32 : rn_op 67 32 = some (.istore_n 3, 1, 0, 0, 0) := by decide +kernel
theorem op67_33 : rn_op 67 33 = some (.iload_n 3, 1, 0, 0, 0) := by decide +kernel
theorem op67_34 : rn_op 67 34 = some (.aload_n 0, 1, 0, 0, 0) := by decide +kernel
theorem op67_35 : rn_op 67 35 = some (.getfield 12, 3, 4, 0, 3) := by decide +kernel
theorem op67_38 : rn_op 67 38 = some (.getfield 101, 3, 1, 1, 0) := by decide +kernel
theorem op67_41 : rn_op 67 41 = some (.if_icmp .ge 151, 3, 0, 0, 0) := by decide +kernel
theorem op67_44 : rn_op 67 44 = some (.aload_n 0, 1, 0, 0, 0) := by decide +kernel
theorem op67_45 : rn_op 67 45 = some (.getfield 38, 3, 4, 4, 3) := by decide +kernel
theorem op67_48 : rn_op 67 48 = some (.iload_n 3, 1, 0, 0, 0) := by decide +kernel
theorem op67_49 : rn_op 67 49 = some (.iload_n 2, 1, 0, 0, 0) := by decide +kernel
theorem op67_50 : rn_op 67 50 = some (.iastore, 1, 0, 0, 0) := by decide +kernel
theorem op67_51 : rn_op 67 51 = some (.aload_n 0, 1, 0, 0, 0) := by decide +kernel
theorem op67_52 : rn_op 67 52 = some (.getfield 42, 3, 4, 5, 3) := by decide +kernel
theorem op67_55 : rn_op 67 55 = some (.iload_n 3, 1, 0, 0, 0) := by decide +kernel
theorem op67_56 : rn_op 67 56 = some (.aload_n 0, 1, 0, 0, 0) := by decide +kernel
theorem op67_57 : rn_op 67 57 = some (.getfield 21, 3, 4, 1, 3) := by decide +kernel
theorem op67_60 : rn_op 67 60 = some (.getfield 176, 3, 7, 2, 3) := by decide +kernel
theorem op67_63 : rn_op 67 63 = some (.iload_n 3, 1, 0, 0, 0) := by decide +kernel
theorem op67_64 : rn_op 67 64 = some (.iaload, 1, 0, 0, 0) := by decide +kernel
theorem op67_65 : rn_op 67 65 = some (.iastore, 1, 0, 0, 0) := by decide +kernel
theorem op67_66 : rn_op 67 66 = some (.iconst 0, 1, 0, 0, 0) := by decide +kernel
theorem op67_67 : rn_op 67 67 = some (.istore 4, 2, 0, 0, 0) := by decide +kernel
theorem op67_69 : rn_op 67 69 = some (.iload 4, 2, 0, 0, 0) := by decide +kernel
theorem op67_71 : rn_op 67 71 = some (.aload_n 0, 1, 0, 0, 0) := by decide +kernel
theorem op67_72 : rn_op 67 72 = some (.getfield 21, 3, 4, 1, 3) := by decide +kernel
theorem op67_75 : rn_op 67 75 = some (.getfield 176, 3, 7, 2, 3) := by decide +kernel
theorem op67_78 : rn_op 67 78 = some (.iload_n 3, 1, 0, 0, 0) := by decide +kernel
theorem op67_79 : rn_op 67 79 = some (.iaload, 1, 0, 0, 0) := by decide +kernel
theorem op67_80 : rn_op 67 80 = some (.if_icmp .ge 106, 3, 0, 0, 0) := by decide +kernel
theorem op67_83 : rn_op 67 83 = some (.iload_n 2, 1, 0, 0, 0) := by decide +kernel
theorem op67_84 : rn_op 67 84 = some (.iconst 4, 1, 0, 0, 0) := by decide +kernel
theorem op67_85 : rn_op 67 85 = some (.if_icmp .ge 101, 3, 0, 0, 0) := by decide +kernel
theorem op67_88 : rn_op 67 88 = some (.aload_n 0, 1, 0, 0, 0) := by decide +kernel
theorem op67_89 : rn_op 67 89 = some (.getfield 34, 3, 4, 3, 3) := by decide +kernel
theorem op67_92 : rn_op 67 92 = some (.iload_n 2, 1, 0, 0, 0) := by decide +kernel
theorem op67_93 : rn_op 67 93 = some (.aaload, 1, 0, 0, 0) := by decide +kernel
theorem op67_94 : rn_op 67 94 = some (.astore 5, 2, 0, 0, 0) := by decide +kernel
theorem op67_96 : rn_op 67 96 = some (.aload 5, 2, 0, 0, 0) := by decide +kernel
theorem op67_98 : rn_op 67 98 = some (.iload_n 3, 1, 0, 0, 0) := by decide +kernel
theorem op67_99 : rn_op 67 99 = some (.invokevirtual 179, 3, 69, 2, 9) := by decide +kernel
theorem op67_102 : rn_op 67 102 = some (.iload_n 3, 1, 0, 0, 0) := by decide +kernel
theorem op67_103 : rn_op 67 103 = some (.bipush 12, 2, 0, 0, 0) := by decide +kernel
theorem op67_105 : rn_op 67 105 = some (.imul, 1, 0, 0, 0) := by decide +kernel
theorem op67_106 : rn_op 67 106 = some (.iload 4, 2, 0, 0, 0) := by decide +kernel
theorem op67_108 : rn_op 67 108 = some (.aload_n 0, 1, 0, 0, 0) := by decide +kernel
theorem op67_109 : rn_op 67 109 = some (.getfield 12, 3, 4, 0, 3) := by decide +kernel
theorem op67_112 : rn_op 67 112 = some (.getfield 101, 3, 1, 1, 0) := by decide +kernel
theorem op67_115 : rn_op 67 115 = some (.imul, 1, 0, 0, 0) := by decide +kernel
theorem op67_116 : rn_op 67 116 = some (.iadd, 1, 0, 0, 0) := by decide +kernel
theorem op67_117 : rn_op 67 117 = some (.istore 6, 2, 0, 0, 0) := by decide +kernel
theorem op67_119 : rn_op 67 119 = some (.iconst 0, 1, 0, 0, 0) := by decide +kernel
theorem op67_120 : rn_op 67 120 = some (.istore 7, 2, 0, 0, 0) := by decide +kernel
theorem op67_122 : rn_op 67 122 = some (.iload 7, 2, 0, 0, 0) := by decide +kernel
theorem op67_124 : rn_op 67 124 = some (.aload_n 0, 1, 0, 0, 0) := by decide +kernel
theorem op67_125 : rn_op 67 125 = some (.getfield 12, 3, 4, 0, 3) := by decide +kernel
theorem op67_128 : rn_op 67 128 = some (.getfield 101, 3, 1, 1, 0) := by decide +kernel
theorem op67_131 : rn_op 67 131 = some (.if_icmp .ge 34, 3, 0, 0, 0) := by decide +kernel
theorem op67_134 : rn_op 67 134 = some (.aload 5, 2, 0, 0, 0) := by decide +kernel
theorem op67_136 : rn_op 67 136 = some (.dup, 1, 0, 0, 0) := by decide +kernel
theorem op67_137 : rn_op 67 137 = some (.getfield 183, 3, 9, 1, 0) := by decide +kernel
theorem op67_140 : rn_op 67 140 = some (.iconst 1, 1, 0, 0, 0) := by decide +kernel
theorem op67_141 : rn_op 67 141 = some (.aload_n 0, 1, 0, 0, 0) := by decide +kernel
theorem op67_142 : rn_op 67 142 = some (.getfield 21, 3, 4, 1, 3) := by decide +kernel
theorem op67_145 : rn_op 67 145 = some (.getfield 120, 3, 7, 3, 3) := by decide +kernel
theorem op67_148 : rn_op 67 148 = some (.iload 6, 2, 0, 0, 0) := by decide +kernel
theorem op67_150 : rn_op 67 150 = some (.iload 7, 2, 0, 0, 0) := by decide +kernel
theorem op67_152 : rn_op 67 152 = some (.iadd, 1, 0, 0, 0) := by decide +kernel
theorem op67_153 : rn_op 67 153 = some (.iaload, 1, 0, 0, 0) := by decide +kernel
theorem op67_154 : rn_op 67 154 = some (.ishl, 1, 0, 0, 0) := by decide +kernel
theorem op67_155 : rn_op 67 155 = some (.ior, 1, 0, 0, 0) := by decide +kernel
theorem op67_156 : rn_op 67 156 = some (.putfield 183, 3, 9, 1, 0) := by decide +kernel
theorem op67_159 : rn_op 67 159 = some (.iinc 7 1, 3, 0, 0, 0) := by decide +kernel
theorem op67_162 : rn_op 67 162 = some (.goto (-40), 3, 0, 0, 0) := by decide +kernel
theorem op67_165 : rn_op 67 165 = some (.aload_n 0, 1, 0, 0, 0) := by decide +kernel
theorem op67_166 : rn_op 67 166 = some (.aload 5, 2, 0, 0, 0) := by decide +kernel
theorem op67_168 : rn_op 67 168 = some (.iload 6, 2, 0, 0, 0) := by decide +kernel
theorem op67_170 : rn_op 67 170 = some (.iconst 0, 1, 0, 0, 0) := by decide +kernel
theorem op67_171 : rn_op 67 171 = some (.iconst 0, 1, 0, 0, 0) := by decide +kernel
theorem op67_172 : rn_op 67 172 = some (.iconst 0, 1, 0, 0, 0) := by decide +kernel
theorem op67_173 : rn_op 67 173 = some (.iload_n 1, 1, 0, 0, 0) := by decide +kernel
theorem op67_174 : rn_op 67 174 = some (.invokevirtual 185, 3, 70, 7, 4) := by decide +kernel
theorem op67_177 : rn_op 67 177 = some (.iinc 2 1, 3, 0, 0, 0) := by decide +kernel
theorem op67_180 : rn_op 67 180 = some (.iinc 4 1, 3, 0, 0, 0) := by decide +kernel
theorem op67_183 : rn_op 67 183 = some (.goto (-114), 3, 0, 0, 0) := by decide +kernel
theorem op67_186 : rn_op 67 186 = some (.iinc 3 1, 3, 0, 0, 0) := by decide +kernel
theorem op67_189 : rn_op 67 189 = some (.goto (-156), 3, 0, 0, 0) := by decide +kernel
theorem op67_192 : rn_op 67 192 = some (.return_, 1, 0, 0, 0) := by decide +kernel
def se_gather_l122 (a1 : Int32) (a2 : Int32) (a3 : Int32) (a4 : Int32) (q5 : Nat) (a6 : Int32) : Nat → Int32 → rn_Mem → Option (rn_Mem)
  | 0, _, _ => none
  | n + 1, a7, m =>
    if a7 < (m.1 52 1) then
      if rn_in (a6 + a7) 48 = true then
        (some (rm_i m q5 1 ((m.1 q5 1) ||| ((1 : Int32) <<< ((m.1 56 (a6 + a7).toNatClampNeg) &&& 31))))).bind fun (m30 : rn_Mem) =>
        (some (a7 + 1)).bind fun (x31 : Int32) =>
        se_gather_l122 a1 a2 a3 a4 q5 a6 n x31 m30
      else none
    else
      some m
def se_gather_l69 (a1 : Int32) (a3 : Int32) : Nat → Int32 → Int32 → rn_Mem → Option (Int32 × rn_Mem)
  | 0, _, _, _ => none
  | n + 1, a2, a4, m =>
    if rn_in a3 4 = true then
      if a4 < (m.1 55 a3.toNatClampNeg) then
        if a2 < 4 then
          if rn_in a2 4 = true then
            (wa_begin n (70 + 8 * a2.toNatClampNeg) a3 m).bind fun m25 =>
            (some ((a3 * 12) + (a4 * (m25.1 52 1)))).bind fun (x27 : Int32) =>
            (se_gather_l122 a1 a2 a3 a4 (70 + 8 * a2.toNatClampNeg) x27 n 0 m25).bind fun m32 =>
            (se_arrange n 16 (70 + 8 * a2.toNatClampNeg) x27 0 0 0 a1 m32).bind fun m34 =>
            (some (a2 + 1)).bind fun (x36 : Int32) =>
            (some (a4 + 1)).bind fun (x37 : Int32) =>
            se_gather_l69 a1 a3 n x36 x37 m34
          else none
        else
          some (a2, m)
      else
        some (a2, m)
    else none
def se_gather_l33 (a1 : Int32) : Nat → Int32 → Int32 → rn_Mem → Option (rn_Mem)
  | 0, _, _, _ => none
  | n + 1, a2, a3, m =>
    if a3 < (m.1 52 1) then
      if rn_in a3 4 = true then
        (some (rm_i m 63 a3.toNatClampNeg a2)).bind fun (m16 : rn_Mem) =>
        if rn_in a3 4 = true then
          if rn_in a3 4 = true then
            (some (rm_i m16 64 a3.toNatClampNeg (m16.1 55 a3.toNatClampNeg))).bind fun (m19 : rn_Mem) =>
            (se_gather_l69 a1 a3 n a2 0 m19).bind fun (x40, m39) =>
            (some (a3 + 1)).bind fun (x45 : Int32) =>
            se_gather_l33 a1 n x40 x45 m39
          else none
        else none
      else none
    else
      some m
def se_gather (n : Nat)  (m : rn_Mem) : Option (rn_Mem) :=
  (show Option (Int32 × rn_Mem) from
    if (m.1 52 5) = 1 then
      (cl_suitsAsked n 57 m).bind fun (r3, m2) =>
      some (r3, m2)
    else
      some (65535, m)).bind fun (x12, m13) =>
  (some (rm_i m13 51 9 0)).bind fun (m14 : rn_Mem) =>
  (se_gather_l33 x12 n 0 0 m14).bind fun m47 =>
  some m47
set_option maxHeartbeats 4000000 in
set_option maxRecDepth 20000 in
theorem se_gather_l122_ok (xs : List Int32) {d : Nat} (hd : 22 ≤ d + 1) {a1 : Int32} {a2 : Int32} {a3 : Int32} {a4 : Int32} {q5 : Nat} {a6 : Int32} {r : Option Value} {τ : rn_H} {out : rn_Mem} (hr : ∀ (mO : rn_Mem), out = mO → ∀ (o7 : Option Value), rn_R xs (d + 1) 67 165 [some (.ref 51), some (.int a1), some (.int a2), some (.int a3), some (.int a4), some (.ref q5), some (.int a6), o7] [] (rn_SH, mO) r τ) : ∀ (n : Nat) (a7 : Int32) (m : rn_Mem), sA_Ways q5 → se_gather_l122 a1 a2 a3 a4 q5 a6 n a7 m = some out → rn_R xs (d + 1) 67 122 [some (.ref 51), some (.int a1), some (.int a2), some (.int a3), some (.int a4), some (.ref q5), some (.int a6), some (.int a7)] [] (rn_SH, m) r τ := by
  intro n
  induction n with
  | zero =>
    intro _ _ _ h
    cases h
  | succ n ih =>
    intro a7 m hq5 h
    unfold se_gather_l122 at h
    try dsimp only at h
    refine rx_p (L2 := [some (.ref 51), some (.int a1), some (.int a2), some (.int a3), some (.int a4), some (.ref q5), some (.int a6), some (.int a7)]) (S2 := [.int a7]) (pc2 := 124) op67_122 rfl rfl ?_
    refine rx_p (L2 := [some (.ref 51), some (.int a1), some (.int a2), some (.int a3), some (.int a4), some (.ref q5), some (.int a6), some (.int a7)]) (S2 := [.ref 51, .int a7]) (pc2 := 125) op67_124 rfl rfl ?_
    refine rx_gf (v := .ref 52) (pc2 := 128) op67_125 sp_51 rfl rfl rfl ?_
    refine rx_gf (v := .int (m.1 52 1)) (pc2 := 131) op67_128 sp_52 rfl rfl rfl ?_
    refine ry_ic_ge (tgt := 165) (pc2 := 134) op67_131 (by decide) (by decide) rfl (fun b28 => ?_) (fun b28 => ?_)
    · have h := (if_pos b28).symm.trans h
      refine rx_p (L2 := [some (.ref 51), some (.int a1), some (.int a2), some (.int a3), some (.int a4), some (.ref q5), some (.int a6), some (.int a7)]) (S2 := [.ref q5]) (pc2 := 136) op67_134 rfl rfl ?_
      refine rx_p (L2 := [some (.ref 51), some (.int a1), some (.int a2), some (.int a3), some (.int a4), some (.ref q5), some (.int a6), some (.int a7)]) (S2 := [.ref q5, .ref q5]) (pc2 := 137) op67_136 rfl rfl ?_
      refine rx_gf (v := .int (m.1 q5 1)) (pc2 := 140) op67_137 (hq5.1) rfl rfl rfl ?_
      refine rx_ic (v := 1) (pc2 := 141) op67_140 (by decide) rfl ?_
      refine rx_p (L2 := [some (.ref 51), some (.int a1), some (.int a2), some (.int a3), some (.int a4), some (.ref q5), some (.int a6), some (.int a7)]) (S2 := [.ref 51, .int 1, .int (m.1 q5 1), .ref q5]) (pc2 := 142) op67_141 rfl rfl ?_
      refine rx_gf (v := .ref 53) (pc2 := 145) op67_142 sp_51 rfl rfl rfl ?_
      refine rx_gf (v := .ref 56) (pc2 := 148) op67_145 sp_53 rfl rfl rfl ?_
      refine rx_p (L2 := [some (.ref 51), some (.int a1), some (.int a2), some (.int a3), some (.int a4), some (.ref q5), some (.int a6), some (.int a7)]) (S2 := [.int a6, .ref 56, .int 1, .int (m.1 q5 1), .ref q5]) (pc2 := 150) op67_148 rfl rfl ?_
      refine rx_p (L2 := [some (.ref 51), some (.int a1), some (.int a2), some (.int a3), some (.int a4), some (.ref q5), some (.int a6), some (.int a7)]) (S2 := [.int a7, .int a6, .ref 56, .int 1, .int (m.1 q5 1), .ref q5]) (pc2 := 152) op67_150 rfl rfl ?_
      refine rx_p (L2 := [some (.ref 51), some (.int a1), some (.int a2), some (.int a3), some (.int a4), some (.ref q5), some (.int a6), some (.int a7)]) (S2 := [.int (a6 + a7), .ref 56, .int 1, .int (m.1 q5 1), .ref q5]) (pc2 := 153) op67_152 rfl rfl ?_
      obtain ⟨k29, h⟩ := rq_chk h
      refine rx_ia (pc2 := 154) op67_153 (rn_shlt sp_56) sp_56 k29 rfl rfl ?_
      refine rx_p (L2 := [some (.ref 51), some (.int a1), some (.int a2), some (.int a3), some (.int a4), some (.ref q5), some (.int a6), some (.int a7)]) (S2 := [.int ((1 : Int32) <<< ((m.1 56 (a6 + a7).toNatClampNeg) &&& 31)), .int (m.1 q5 1), .ref q5]) (pc2 := 155) op67_154 rfl rfl ?_
      refine rx_p (L2 := [some (.ref 51), some (.int a1), some (.int a2), some (.int a3), some (.int a4), some (.ref q5), some (.int a6), some (.int a7)]) (S2 := [.int ((m.1 q5 1) ||| ((1 : Int32) <<< ((m.1 56 (a6 + a7).toNatClampNeg) &&& 31))), .ref q5]) (pc2 := 156) op67_155 rfl rfl ?_
      obtain ⟨m30, em30, h⟩ := rq_bv h
      refine rx_pf (m2 := m30) (pc2 := 159) op67_156 (hq5.1) rfl em30 rfl ?_
      obtain ⟨x31, ex31, h⟩ := rq_bv h
      refine rx_inc (w := 1) (v := x31) (L2 := [some (.ref 51), some (.int a1), some (.int a2), some (.int a3), some (.int a4), some (.ref q5), some (.int a6), some (.int x31)]) (pc2 := 162) op67_159 rfl (by decide) ex31 rfl rfl ?_
      refine ry_go (tgt := 122) op67_162 (by decide) (by decide) ?_
      exact ih _ _ hq5 h
    · have h := (if_neg b28).symm.trans h
      cases h
      exact hr _ rfl _
set_option maxHeartbeats 4000000 in
set_option maxRecDepth 20000 in
theorem se_gather_l69_ok (xs : List Int32) {d : Nat} (hd : 22 ≤ d + 1) {a1 : Int32} {a3 : Int32} {r : Option Value} {τ : rn_H} {out : Int32 × rn_Mem} (hr : ∀ (z2 : Int32) (mO : rn_Mem), out = (z2, mO) → ∀ (o4 o5 o6 o7 : Option Value), rn_R xs (d + 1) 67 186 [some (.ref 51), some (.int a1), some (.int z2), some (.int a3), o4, o5, o6, o7] [] (rn_SH, mO) r τ) : ∀ (n : Nat) (a2 : Int32) (a4 : Int32) (o5 o6 o7 : Option Value) (m : rn_Mem), se_gather_l69 a1 a3 n a2 a4 m = some out → rn_R xs (d + 1) 67 69 [some (.ref 51), some (.int a1), some (.int a2), some (.int a3), some (.int a4), o5, o6, o7] [] (rn_SH, m) r τ := by
  intro n
  induction n with
  | zero =>
    intro _ _ _ _ _ _ h
    cases h
  | succ n ih =>
    intro a2 a4 o5 o6 o7 m h
    unfold se_gather_l69 at h
    try dsimp only at h
    refine rx_p (L2 := [some (.ref 51), some (.int a1), some (.int a2), some (.int a3), some (.int a4), o5, o6, o7]) (S2 := [.int a4]) (pc2 := 71) op67_69 rfl rfl ?_
    refine rx_p (L2 := [some (.ref 51), some (.int a1), some (.int a2), some (.int a3), some (.int a4), o5, o6, o7]) (S2 := [.ref 51, .int a4]) (pc2 := 72) op67_71 rfl rfl ?_
    refine rx_gf (v := .ref 53) (pc2 := 75) op67_72 sp_51 rfl rfl rfl ?_
    refine rx_gf (v := .ref 55) (pc2 := 78) op67_75 sp_53 rfl rfl rfl ?_
    refine rx_p (L2 := [some (.ref 51), some (.int a1), some (.int a2), some (.int a3), some (.int a4), o5, o6, o7]) (S2 := [.int a3, .ref 55, .int a4]) (pc2 := 79) op67_78 rfl rfl ?_
    obtain ⟨k21, h⟩ := rq_chk h
    refine rx_ia (pc2 := 80) op67_79 (rn_shlt sp_55) sp_55 k21 rfl rfl ?_
    refine ry_ic_ge (tgt := 186) (pc2 := 83) op67_80 (by decide) (by decide) rfl (fun b22 => ?_) (fun b22 => ?_)
    · have h := (if_pos b22).symm.trans h
      refine rx_p (L2 := [some (.ref 51), some (.int a1), some (.int a2), some (.int a3), some (.int a4), o5, o6, o7]) (S2 := [.int a2]) (pc2 := 84) op67_83 rfl rfl ?_
      refine rx_ic (v := 4) (pc2 := 85) op67_84 (by decide) rfl ?_
      refine ry_ic_ge (tgt := 186) (pc2 := 88) op67_85 (by decide) (by decide) rfl (fun b23 => ?_) (fun b23 => ?_)
      · have h := (if_pos b23).symm.trans h
        refine rx_p (L2 := [some (.ref 51), some (.int a1), some (.int a2), some (.int a3), some (.int a4), o5, o6, o7]) (S2 := [.ref 51]) (pc2 := 89) op67_88 rfl rfl ?_
        refine rx_gf (v := .ref 62) (pc2 := 92) op67_89 sp_51 rfl rfl rfl ?_
        refine rx_p (L2 := [some (.ref 51), some (.int a1), some (.int a2), some (.int a3), some (.int a4), o5, o6, o7]) (S2 := [.int a2, .ref 62]) (pc2 := 93) op67_92 rfl rfl ?_
        obtain ⟨k24, h⟩ := rq_chk h
        refine rx_aa (q := (70 + 8 * a2.toNatClampNeg)) (pc2 := 94) op67_93 sp_62 (by decide) k24 (rn_ways_at k24) rfl ?_
        refine rx_p (L2 := [some (.ref 51), some (.int a1), some (.int a2), some (.int a3), some (.int a4), some (.ref (70 + 8 * a2.toNatClampNeg)), o6, o7]) (S2 := []) (pc2 := 96) op67_94 rfl rfl ?_
        refine rx_p (L2 := [some (.ref 51), some (.int a1), some (.int a2), some (.int a3), some (.int a4), some (.ref (70 + 8 * a2.toNatClampNeg)), o6, o7]) (S2 := [.ref (70 + 8 * a2.toNatClampNeg)]) (pc2 := 98) op67_96 rfl rfl ?_
        refine rx_p (L2 := [some (.ref 51), some (.int a1), some (.int a2), some (.int a3), some (.int a4), some (.ref (70 + 8 * a2.toNatClampNeg)), o6, o7]) (S2 := [.int a3, .ref (70 + 8 * a2.toNatClampNeg)]) (pc2 := 99) op67_98 rfl rfl ?_
        obtain ⟨m25, f26, h⟩ := rq_bind h
        try dsimp only at h
        refine ry_iv (p := (70 + 8 * a2.toNatClampNeg)) (vs := [.int a3]) (T := []) (pc2 := 102) op67_99 ms_69 (by decide) rfl rfl (Nat.le_of_ble_eq_true rfl) (Nat.le_of_ble_eq_true rfl) ((rn_ways_asm k24).1) (wa_begin_ok xs (by omega) (rn_ways_asm k24) f26) rfl ?_
        show rn_R _ _ _ _ _ [] _ _ _
        refine rx_p (L2 := [some (.ref 51), some (.int a1), some (.int a2), some (.int a3), some (.int a4), some (.ref (70 + 8 * a2.toNatClampNeg)), o6, o7]) (S2 := [.int a3]) (pc2 := 103) op67_102 rfl rfl ?_
        refine rx_bp (v := 12) (pc2 := 105) op67_103 (by decide) rfl ?_
        refine rx_p (L2 := [some (.ref 51), some (.int a1), some (.int a2), some (.int a3), some (.int a4), some (.ref (70 + 8 * a2.toNatClampNeg)), o6, o7]) (S2 := [.int (a3 * 12)]) (pc2 := 106) op67_105 rfl rfl ?_
        refine rx_p (L2 := [some (.ref 51), some (.int a1), some (.int a2), some (.int a3), some (.int a4), some (.ref (70 + 8 * a2.toNatClampNeg)), o6, o7]) (S2 := [.int a4, .int (a3 * 12)]) (pc2 := 108) op67_106 rfl rfl ?_
        refine rx_p (L2 := [some (.ref 51), some (.int a1), some (.int a2), some (.int a3), some (.int a4), some (.ref (70 + 8 * a2.toNatClampNeg)), o6, o7]) (S2 := [.ref 51, .int a4, .int (a3 * 12)]) (pc2 := 109) op67_108 rfl rfl ?_
        refine rx_gf (v := .ref 52) (pc2 := 112) op67_109 sp_51 rfl rfl rfl ?_
        refine rx_gf (v := .int (m25.1 52 1)) (pc2 := 115) op67_112 sp_52 rfl rfl rfl ?_
        refine rx_p (L2 := [some (.ref 51), some (.int a1), some (.int a2), some (.int a3), some (.int a4), some (.ref (70 + 8 * a2.toNatClampNeg)), o6, o7]) (S2 := [.int (a4 * (m25.1 52 1)), .int (a3 * 12)]) (pc2 := 116) op67_115 rfl rfl ?_
        refine rx_p (L2 := [some (.ref 51), some (.int a1), some (.int a2), some (.int a3), some (.int a4), some (.ref (70 + 8 * a2.toNatClampNeg)), o6, o7]) (S2 := [.int ((a3 * 12) + (a4 * (m25.1 52 1)))]) (pc2 := 117) op67_116 rfl rfl ?_
        obtain ⟨x27, ex27, h⟩ := rq_bv h
        refine rx_s (v := x27) (L2 := [some (.ref 51), some (.int a1), some (.int a2), some (.int a3), some (.int a4), some (.ref (70 + 8 * a2.toNatClampNeg)), some (.int x27), o7]) (pc2 := 119) op67_117 ex27 rfl rfl ?_
        refine rx_ic (v := 0) (pc2 := 120) op67_119 (by decide) rfl ?_
        refine rx_s (L2 := [some (.ref 51), some (.int a1), some (.int a2), some (.int a3), some (.int a4), some (.ref (70 + 8 * a2.toNatClampNeg)), some (.int x27), some (.int 0)]) (pc2 := 122) op67_120 rfl rfl rfl ?_
        obtain ⟨m32, f38, h⟩ := rq_bind h
        refine se_gather_l122_ok xs hd (fun m0 eq => ?_) _ _ _ (rn_ways_asm k24) f38
        subst eq
        try dsimp only at h
        intro o33
        refine rx_p (L2 := [some (.ref 51), some (.int a1), some (.int a2), some (.int a3), some (.int a4), some (.ref (70 + 8 * a2.toNatClampNeg)), some (.int x27), o33]) (S2 := [.ref 51]) (pc2 := 166) op67_165 rfl rfl ?_
        refine rx_p (L2 := [some (.ref 51), some (.int a1), some (.int a2), some (.int a3), some (.int a4), some (.ref (70 + 8 * a2.toNatClampNeg)), some (.int x27), o33]) (S2 := [.ref (70 + 8 * a2.toNatClampNeg), .ref 51]) (pc2 := 168) op67_166 rfl rfl ?_
        refine rx_p (L2 := [some (.ref 51), some (.int a1), some (.int a2), some (.int a3), some (.int a4), some (.ref (70 + 8 * a2.toNatClampNeg)), some (.int x27), o33]) (S2 := [.int x27, .ref (70 + 8 * a2.toNatClampNeg), .ref 51]) (pc2 := 170) op67_168 rfl rfl ?_
        refine rx_ic (v := 0) (pc2 := 171) op67_170 (by decide) rfl ?_
        refine rx_ic (v := 0) (pc2 := 172) op67_171 (by decide) rfl ?_
        refine rx_ic (v := 0) (pc2 := 173) op67_172 (by decide) rfl ?_
        refine rx_p (L2 := [some (.ref 51), some (.int a1), some (.int a2), some (.int a3), some (.int a4), some (.ref (70 + 8 * a2.toNatClampNeg)), some (.int x27), o33]) (S2 := [.int a1, .int 0, .int 0, .int 0, .int x27, .ref (70 + 8 * a2.toNatClampNeg), .ref 51]) (pc2 := 174) op67_173 rfl rfl ?_
        obtain ⟨m34, f35, h⟩ := rq_bind h
        try dsimp only at h
        refine ry_iv (p := 51) (vs := [.ref (70 + 8 * a2.toNatClampNeg), .int x27, .int 0, .int 0, .int 0, .int a1]) (T := []) (pc2 := 177) op67_174 ms_70 (by decide) rfl rfl (Nat.le_of_ble_eq_true rfl) (Nat.le_of_ble_eq_true rfl) sp_51 (se_arrange_ok xs 16 (by omega) (rn_ways_asm k24) f35) rfl ?_
        show rn_R _ _ _ _ _ [] _ _ _
        obtain ⟨x36, ex36, h⟩ := rq_bv h
        refine rx_inc (w := 1) (v := x36) (L2 := [some (.ref 51), some (.int a1), some (.int x36), some (.int a3), some (.int a4), some (.ref (70 + 8 * a2.toNatClampNeg)), some (.int x27), o33]) (pc2 := 180) op67_177 rfl (by decide) ex36 rfl rfl ?_
        obtain ⟨x37, ex37, h⟩ := rq_bv h
        refine rx_inc (w := 1) (v := x37) (L2 := [some (.ref 51), some (.int a1), some (.int x36), some (.int a3), some (.int x37), some (.ref (70 + 8 * a2.toNatClampNeg)), some (.int x27), o33]) (pc2 := 183) op67_180 rfl (by decide) ex37 rfl rfl ?_
        refine ry_go (tgt := 69) op67_183 (by decide) (by decide) ?_
        exact ih _ _ _ _ _ _ h
      · have h := (if_neg b23).symm.trans h
        cases h
        exact hr _ _ rfl _ _ _ _
    · have h := (if_neg b22).symm.trans h
      cases h
      exact hr _ _ rfl _ _ _ _
set_option maxHeartbeats 4000000 in
set_option maxRecDepth 20000 in
theorem se_gather_l33_ok (xs : List Int32) {d : Nat} (hd : 22 ≤ d + 1) {a1 : Int32} {r : Option Value} {τ : rn_H} {out : rn_Mem} (hr : ∀ (mO : rn_Mem), out = mO → ∀ (o0 o1 o2 o3 o4 o5 o6 o7 : Option Value), rn_R xs (d + 1) 67 192 [o0, o1, o2, o3, o4, o5, o6, o7] [] (rn_SH, mO) r τ) : ∀ (n : Nat) (a2 : Int32) (a3 : Int32) (o4 o5 o6 o7 : Option Value) (m : rn_Mem), se_gather_l33 a1 n a2 a3 m = some out → rn_R xs (d + 1) 67 33 [some (.ref 51), some (.int a1), some (.int a2), some (.int a3), o4, o5, o6, o7] [] (rn_SH, m) r τ := by
  intro n
  induction n with
  | zero =>
    intro _ _ _ _ _ _ _ h
    cases h
  | succ n ih =>
    intro a2 a3 o4 o5 o6 o7 m h
    unfold se_gather_l33 at h
    try dsimp only at h
    refine rx_p (L2 := [some (.ref 51), some (.int a1), some (.int a2), some (.int a3), o4, o5, o6, o7]) (S2 := [.int a3]) (pc2 := 34) op67_33 rfl rfl ?_
    refine rx_p (L2 := [some (.ref 51), some (.int a1), some (.int a2), some (.int a3), o4, o5, o6, o7]) (S2 := [.ref 51, .int a3]) (pc2 := 35) op67_34 rfl rfl ?_
    refine rx_gf (v := .ref 52) (pc2 := 38) op67_35 sp_51 rfl rfl rfl ?_
    refine rx_gf (v := .int (m.1 52 1)) (pc2 := 41) op67_38 sp_52 rfl rfl rfl ?_
    refine ry_ic_ge (tgt := 192) (pc2 := 44) op67_41 (by decide) (by decide) rfl (fun b15 => ?_) (fun b15 => ?_)
    · have h := (if_pos b15).symm.trans h
      refine rx_p (L2 := [some (.ref 51), some (.int a1), some (.int a2), some (.int a3), o4, o5, o6, o7]) (S2 := [.ref 51]) (pc2 := 45) op67_44 rfl rfl ?_
      refine rx_gf (v := .ref 63) (pc2 := 48) op67_45 sp_51 rfl rfl rfl ?_
      refine rx_p (L2 := [some (.ref 51), some (.int a1), some (.int a2), some (.int a3), o4, o5, o6, o7]) (S2 := [.int a3, .ref 63]) (pc2 := 49) op67_48 rfl rfl ?_
      refine rx_p (L2 := [some (.ref 51), some (.int a1), some (.int a2), some (.int a3), o4, o5, o6, o7]) (S2 := [.int a2, .int a3, .ref 63]) (pc2 := 50) op67_49 rfl rfl ?_
      obtain ⟨k17, h⟩ := rq_chk h
      obtain ⟨m16, em16, h⟩ := rq_bv h
      refine rx_is (m2 := m16) (pc2 := 51) op67_50 sp_63 k17 rfl em16 rfl ?_
      refine rx_p (L2 := [some (.ref 51), some (.int a1), some (.int a2), some (.int a3), o4, o5, o6, o7]) (S2 := [.ref 51]) (pc2 := 52) op67_51 rfl rfl ?_
      refine rx_gf (v := .ref 64) (pc2 := 55) op67_52 sp_51 rfl rfl rfl ?_
      refine rx_p (L2 := [some (.ref 51), some (.int a1), some (.int a2), some (.int a3), o4, o5, o6, o7]) (S2 := [.int a3, .ref 64]) (pc2 := 56) op67_55 rfl rfl ?_
      refine rx_p (L2 := [some (.ref 51), some (.int a1), some (.int a2), some (.int a3), o4, o5, o6, o7]) (S2 := [.ref 51, .int a3, .ref 64]) (pc2 := 57) op67_56 rfl rfl ?_
      refine rx_gf (v := .ref 53) (pc2 := 60) op67_57 sp_51 rfl rfl rfl ?_
      refine rx_gf (v := .ref 55) (pc2 := 63) op67_60 sp_53 rfl rfl rfl ?_
      refine rx_p (L2 := [some (.ref 51), some (.int a1), some (.int a2), some (.int a3), o4, o5, o6, o7]) (S2 := [.int a3, .ref 55, .int a3, .ref 64]) (pc2 := 64) op67_63 rfl rfl ?_
      obtain ⟨k18, h⟩ := rq_chk h
      refine rx_ia (pc2 := 65) op67_64 (rn_shlt sp_55) sp_55 k18 rfl rfl ?_
      obtain ⟨k20, h⟩ := rq_chk h
      obtain ⟨m19, em19, h⟩ := rq_bv h
      refine rx_is (m2 := m19) (pc2 := 66) op67_65 sp_64 k20 rfl em19 rfl ?_
      refine rx_ic (v := 0) (pc2 := 67) op67_66 (by decide) rfl ?_
      refine rx_s (L2 := [some (.ref 51), some (.int a1), some (.int a2), some (.int a3), some (.int 0), o5, o6, o7]) (pc2 := 69) op67_67 rfl rfl rfl ?_
      obtain ⟨wf46, f46, h⟩ := rq_bind h
      refine se_gather_l69_ok xs hd (fun x40 m39 eq => ?_) _ _ _ _ _ _ _  f46
      subst eq
      try dsimp only at h
      intro o41 o42 o43 o44
      obtain ⟨x45, ex45, h⟩ := rq_bv h
      refine rx_inc (w := 1) (v := x45) (L2 := [some (.ref 51), some (.int a1), some (.int x40), some (.int x45), o41, o42, o43, o44]) (pc2 := 189) op67_186 rfl (by decide) ex45 rfl rfl ?_
      refine ry_go (tgt := 33) op67_189 (by decide) (by decide) ?_
      exact ih _ _ _ _ _ _ _ h
    · have h := (if_neg b15).symm.trans h
      cases h
      exact hr _ rfl _ _ _ _ _ _ _ _
set_option maxHeartbeats 4000000 in
set_option maxRecDepth 20000 in
theorem se_gather_ok (xs : List Int32) {d : Nat} (hd : 22 ≤ d) {n : Nat} {m mO : rn_Mem} (h : se_gather n  m = some mO) : rn_R xs d 67 0 (rn_ent 8 [.ref 51]) [] (rn_SH, m) none (rn_SH, mO) := by
  obtain ⟨d, rfl⟩ : ∃ e, d = e + 1 := ⟨d - 1, by omega⟩
  unfold se_gather at h
  show rn_R xs (d + 1) 67 0 [some (.ref 51), none, none, none, none, none, none, none] [] (rn_SH, m) none (rn_SH, mO)
  refine rx_p (L2 := [some (.ref 51), none, none, none, none, none, none, none]) (S2 := [.ref 51]) (pc2 := 1) op67_0 rfl rfl ?_
  refine rx_gf (v := .ref 52) (pc2 := 4) op67_1 sp_51 rfl rfl rfl ?_
  refine rx_gf (v := .int (m.1 52 5)) (pc2 := 7) op67_4 sp_52 rfl rfl rfl ?_
  refine rx_ic (v := 1) (pc2 := 8) op67_7 (by decide) rfl ?_
  obtain ⟨⟨x12, m13⟩, gc57, h⟩ := rq_bind h
  try dsimp only at h
  have c57 : ∀ (o5 o6 o7 o8 o9 o10 o11 : Option Value), rn_R xs (d + 1) 67 23 [some (.ref 51), o5, o6, o7, o8, o9, o10, o11] [.int x12] (rn_SH, m13) none (rn_SH, mO) := by
    intro o5 o6 o7 o8 o9 o10 o11
    refine rx_s (L2 := [some (.ref 51), some (.int x12), o6, o7, o8, o9, o10, o11]) (pc2 := 24) op67_23 rfl rfl rfl ?_
    refine rx_ic (v := 0) (pc2 := 25) op67_24 (by decide) rfl ?_
    refine rx_s (L2 := [some (.ref 51), some (.int x12), some (.int 0), o7, o8, o9, o10, o11]) (pc2 := 26) op67_25 rfl rfl rfl ?_
    refine rx_p (L2 := [some (.ref 51), some (.int x12), some (.int 0), o7, o8, o9, o10, o11]) (S2 := [.ref 51]) (pc2 := 27) op67_26 rfl rfl ?_
    refine rx_ic (v := 0) (pc2 := 28) op67_27 (by decide) rfl ?_
    obtain ⟨m14, em14, h⟩ := rq_bv h
    refine rx_pf (m2 := m14) (pc2 := 31) op67_28 sp_51 rfl em14 rfl ?_
    refine rx_ic (v := 0) (pc2 := 32) op67_31 (by decide) rfl ?_
    refine rx_s (L2 := [some (.ref 51), some (.int x12), some (.int 0), some (.int 0), o8, o9, o10, o11]) (pc2 := 33) op67_32 rfl rfl rfl ?_
    obtain ⟨m47, f56, h⟩ := rq_bind h
    refine se_gather_l33_ok xs hd (fun m0 eq => ?_) _ _ _ _ _ _ _ _  f56
    subst eq
    try dsimp only at h
    intro o48 o49 o50 o51 o52 o53 o54 o55
    obtain rfl := Option.some.inj h
    exact ry_rv op67_192 ms_67 rfl
  refine ry_ic_ne (tgt := 21) (pc2 := 11) op67_8 (by decide) (by decide) rfl (fun b1 => ?_) (fun b1 => ?_)
  · have gc57 := (if_pos b1).symm.trans gc57
    refine rx_p (L2 := [some (.ref 51), none, none, none, none, none, none, none]) (S2 := [.ref 51]) (pc2 := 12) op67_11 rfl rfl ?_
    refine rx_gf (v := .ref 57) (pc2 := 15) op67_12 sp_51 rfl rfl rfl ?_
    obtain ⟨⟨r3, m2⟩, f4, gc57⟩ := rq_bind gc57
    try dsimp only at gc57
    refine ry_iv (p := 57) (vs := []) (T := []) (pc2 := 18) op67_15 ms_68 (by decide) rfl rfl (Nat.le_of_ble_eq_true rfl) (Nat.le_of_ble_eq_true rfl) sp_57 (cl_suitsAsked_ok xs (by omega) sa_57 f4) rfl ?_
    show rn_R _ _ _ _ _ [.int r3] _ _ _
    refine ry_go (tgt := 23) op67_18 (by decide) (by decide) ?_
    cases gc57
    exact c57 _ _ _ _ _ _ _
  · have gc57 := (if_neg b1).symm.trans gc57
    refine rx_ld (v := 65535) (pc2 := 23) op67_21 (by decide) rfl ?_
    cases gc57
    exact c57 _ _ _ _ _ _ _
/-! se_lastLeader -/
theorem op75_0 : rn_op 75 0 = some (.aload_n 0, 1, 0, 0, 0) := by decide +kernel
theorem op75_1 : rn_op 75 1 = some (.getfield 12, 3, 4, 0, 3) := by decide +kernel
theorem op75_4 : rn_op 75 4 = some (.getfield 156, 3, 1, 6, 0) := by decide +kernel
theorem op75_7 : rn_op 75 7 = some (.ifCond .eq 13, 3, 0, 0, 0) := by decide +kernel
theorem op75_10 : rn_op 75 10 = some (.aload_n 0, 1, 0, 0, 0) := by decide +kernel
theorem op75_11 : rn_op 75 11 = some (.getfield 12, 3, 4, 0, 3) := by decide +kernel
theorem op75_14 : rn_op 75 14 = some (.getfield 159, 3, 1, 8, 0) := by decide +kernel
theorem op75_17 : rn_op 75 17 = some (.ifCond .ge 5, 3, 0, 0, 0) := by decide +kernel
theorem op75_20 : rn_op 75 20 = some (.iconst (-1), 1, 0, 0, 0) := by decide +kernel
theorem op75_21 : rn_op 75 21 = some (.ireturn, 1, 0, 0, 0) := by decide +kernel
theorem op75_22 : rn_op 75 22 = some (.aload_n 0, 1, 0, 0, 0) := by decide +kernel
theorem op75_23 : rn_op 75 23 = some (.getfield 12, 3, 4, 0, 3) := by decide +kernel
theorem op75_26 : rn_op 75 26 = some (.getfield 159, 3, 1, 8, 0) := by decide +kernel
theorem op75_29 : rn_op 75 29 = some (.istore_n 1, 1, 0, 0, 0) := by decide +kernel
theorem op75_30 : rn_op 75 30 = some (.iconst 1, 1, 0, 0, 0) := by decide +kernel
theorem op75_31 : rn_op 75 31 = some (.istore_n 2, 1, 0, 0, 0) := by decide +kernel
theorem op75_32 : rn_op 75 32 = some (.iload_n 2, 1, 0, 0, 0) := by decide +kernel
theorem op75_33 : rn_op 75 33 = some (.aload_n 0, 1, 0, 0, 0) := by decide +kernel
theorem op75_34 : rn_op 75 34 = some (.getfield 12, 3, 4, 0, 3) := by decide +kernel
theorem op75_37 : rn_op 75 37 = some (.getfield 129, 3, 1, 2, 0) := by decide +kernel
theorem op75_40 : rn_op 75 40 = some (.if_icmp .ge 18, 3, 0, 0, 0) := by decide +kernel
theorem op75_43 : rn_op 75 43 = some (.aload_n 0, 1, 0, 0, 0) := by decide +kernel
theorem op75_44 : rn_op 75 44 = some (.getfield 12, 3, 4, 0, 3) := by decide +kernel
theorem op75_47 : rn_op 75 47 = some (.iload_n 1, 1, 0, 0, 0) := by decide +kernel
theorem op75_48 : rn_op 75 48 = some (.invokevirtual 162, 3, 52, 2, 1) := by decide +kernel
theorem op75_51 : rn_op 75 51 = some (.istore_n 1, 1, 0, 0, 0) := by decide +kernel
theorem op75_52 : rn_op 75 52 = some (.iinc 2 1, 3, 0, 0, 0) := by decide +kernel
theorem op75_55 : rn_op 75 55 = some (.goto (-23), 3, 0, 0, 0) := by decide +kernel
theorem op75_58 : rn_op 75 58 = some (.iload_n 1, 1, 0, 0, 0) := by decide +kernel
theorem op75_59 : rn_op 75 59 = some (.ireturn, 1, 0, 0, 0) := by decide +kernel
def se_lastLeader_l32  : Nat → Int32 → Int32 → rn_Mem → Option (Int32 × rn_Mem)
  | 0, _, _, _ => none
  | n + 1, a1, a2, m =>
    if a2 < (m.1 52 2) then
      (ga_next n 52 a1 m).bind fun (r6, m5) =>
      (some (a2 + 1)).bind fun (x8 : Int32) =>
      se_lastLeader_l32 n r6 x8 m5
    else
      some (a1, m)
def se_lastLeader (n : Nat)  (m : rn_Mem) : Option (Int32 × rn_Mem) :=
  if (m.1 52 6) = 0 then
    some ((-1), m)
  else
    if (m.1 52 8) < 0 then
      some ((-1), m)
    else
      (some (m.1 52 8)).bind fun (x3 : Int32) =>
      (se_lastLeader_l32 n x3 1 m).bind fun (x11, m9) =>
      some (x11, m9)
set_option maxHeartbeats 4000000 in
set_option maxRecDepth 20000 in
theorem se_lastLeader_l32_ok (xs : List Int32) {d : Nat} (hd : 1 ≤ d + 1) {r : Option Value} {τ : rn_H} {out : Int32 × rn_Mem} (hr : ∀ (z1 : Int32) (mO : rn_Mem), out = (z1, mO) → ∀ (o0 o2 : Option Value), rn_R xs (d + 1) 75 58 [o0, some (.int z1), o2] [] (rn_SH, mO) r τ) : ∀ (n : Nat) (a1 : Int32) (a2 : Int32) (m : rn_Mem), se_lastLeader_l32 n a1 a2 m = some out → rn_R xs (d + 1) 75 32 [some (.ref 51), some (.int a1), some (.int a2)] [] (rn_SH, m) r τ := by
  intro n
  induction n with
  | zero =>
    intro _ _ _ h
    cases h
  | succ n ih =>
    intro a1 a2 m h
    unfold se_lastLeader_l32 at h
    try dsimp only at h
    refine rx_p (L2 := [some (.ref 51), some (.int a1), some (.int a2)]) (S2 := [.int a2]) (pc2 := 33) op75_32 rfl rfl ?_
    refine rx_p (L2 := [some (.ref 51), some (.int a1), some (.int a2)]) (S2 := [.ref 51, .int a2]) (pc2 := 34) op75_33 rfl rfl ?_
    refine rx_gf (v := .ref 52) (pc2 := 37) op75_34 sp_51 rfl rfl rfl ?_
    refine rx_gf (v := .int (m.1 52 2)) (pc2 := 40) op75_37 sp_52 rfl rfl rfl ?_
    refine ry_ic_ge (tgt := 58) (pc2 := 43) op75_40 (by decide) (by decide) rfl (fun b4 => ?_) (fun b4 => ?_)
    · have h := (if_pos b4).symm.trans h
      refine rx_p (L2 := [some (.ref 51), some (.int a1), some (.int a2)]) (S2 := [.ref 51]) (pc2 := 44) op75_43 rfl rfl ?_
      refine rx_gf (v := .ref 52) (pc2 := 47) op75_44 sp_51 rfl rfl rfl ?_
      refine rx_p (L2 := [some (.ref 51), some (.int a1), some (.int a2)]) (S2 := [.int a1, .ref 52]) (pc2 := 48) op75_47 rfl rfl ?_
      obtain ⟨⟨r6, m5⟩, f7, h⟩ := rq_bind h
      try dsimp only at h
      refine ry_iv (p := 52) (vs := [.int a1]) (T := []) (pc2 := 51) op75_48 ms_52 (by decide) rfl rfl (Nat.le_of_ble_eq_true rfl) (Nat.le_of_ble_eq_true rfl) sp_52 (ga_next_ok xs (by omega) sa_52 f7) rfl ?_
      show rn_R _ _ _ _ _ [.int r6] _ _ _
      refine rx_s (L2 := [some (.ref 51), some (.int r6), some (.int a2)]) (pc2 := 52) op75_51 rfl rfl rfl ?_
      obtain ⟨x8, ex8, h⟩ := rq_bv h
      refine rx_inc (w := 1) (v := x8) (L2 := [some (.ref 51), some (.int r6), some (.int x8)]) (pc2 := 55) op75_52 rfl (by decide) ex8 rfl rfl ?_
      refine ry_go (tgt := 32) op75_55 (by decide) (by decide) ?_
      exact ih _ _ _ h
    · have h := (if_neg b4).symm.trans h
      cases h
      exact hr _ _ rfl _ _
set_option maxHeartbeats 4000000 in
set_option maxRecDepth 20000 in
theorem se_lastLeader_ok (xs : List Int32) {d : Nat} (hd : 1 ≤ d) {n : Nat} {m mO : rn_Mem} {rO : Int32} (h : se_lastLeader n  m = some (rO, mO)) : rn_R xs d 75 0 (rn_ent 3 [.ref 51]) [] (rn_SH, m) (some (.int rO)) (rn_SH, mO) := by
  obtain ⟨d, rfl⟩ : ∃ e, d = e + 1 := ⟨d - 1, by omega⟩
  unfold se_lastLeader at h
  show rn_R xs (d + 1) 75 0 [some (.ref 51), none, none] [] (rn_SH, m) (some (.int rO)) (rn_SH, mO)
  refine rx_p (L2 := [some (.ref 51), none, none]) (S2 := [.ref 51]) (pc2 := 1) op75_0 rfl rfl ?_
  refine rx_gf (v := .ref 52) (pc2 := 4) op75_1 sp_51 rfl rfl rfl ?_
  refine rx_gf (v := .int (m.1 52 6)) (pc2 := 7) op75_4 sp_52 rfl rfl rfl ?_
  refine ry_if_eq (tgt := 20) (pc2 := 10) op75_7 (by decide) (by decide) rfl (fun b1 => ?_) (fun b1 => ?_)
  · have h := (if_pos b1).symm.trans h
    refine rx_ic (v := (-1)) (pc2 := 21) op75_20 (by decide) rfl ?_
    obtain ⟨rfl, rfl⟩ := rq_ret h
    exact ry_ri op75_21 ms_75 rfl
  · have h := (if_neg b1).symm.trans h
    refine rx_p (L2 := [some (.ref 51), none, none]) (S2 := [.ref 51]) (pc2 := 11) op75_10 rfl rfl ?_
    refine rx_gf (v := .ref 52) (pc2 := 14) op75_11 sp_51 rfl rfl rfl ?_
    refine rx_gf (v := .int (m.1 52 8)) (pc2 := 17) op75_14 sp_52 rfl rfl rfl ?_
    refine ry_if_ge (tgt := 22) (pc2 := 20) op75_17 (by decide) (by decide) rfl (fun b2 => ?_) (fun b2 => ?_)
    · have h := (if_pos b2).symm.trans h
      refine rx_ic (v := (-1)) (pc2 := 21) op75_20 (by decide) rfl ?_
      obtain ⟨rfl, rfl⟩ := rq_ret h
      exact ry_ri op75_21 ms_75 rfl
    · have h := (if_neg b2).symm.trans h
      refine rx_p (L2 := [some (.ref 51), none, none]) (S2 := [.ref 51]) (pc2 := 23) op75_22 rfl rfl ?_
      refine rx_gf (v := .ref 52) (pc2 := 26) op75_23 sp_51 rfl rfl rfl ?_
      refine rx_gf (v := .int (m.1 52 8)) (pc2 := 29) op75_26 sp_52 rfl rfl rfl ?_
      obtain ⟨x3, ex3, h⟩ := rq_bv h
      refine rx_s (v := x3) (L2 := [some (.ref 51), some (.int x3), none]) (pc2 := 30) op75_29 ex3 rfl rfl ?_
      refine rx_ic (v := 1) (pc2 := 31) op75_30 (by decide) rfl ?_
      refine rx_s (L2 := [some (.ref 51), some (.int x3), some (.int 1)]) (pc2 := 32) op75_31 rfl rfl rfl ?_
      obtain ⟨wf13, f13, h⟩ := rq_bind h
      refine se_lastLeader_l32_ok xs hd (fun x11 m9 eq => ?_) _ _ _ _  f13
      subst eq
      try dsimp only at h
      intro o10 o12
      refine rx_p (L2 := [o10, some (.int x11), o12]) (S2 := [.int x11]) (pc2 := 59) op75_58 rfl rfl ?_
      obtain ⟨rfl, rfl⟩ := rq_ret h
      exact ry_ri op75_59 ms_75 rfl
/-! se_chairsIn -/
theorem op78_0 : rn_op 78 0 = some (.iload_n 0, 1, 0, 0, 0) := by decide +kernel
theorem op78_1 : rn_op 78 1 = some (.iload_n 0, 1, 0, 0, 0) := by decide +kernel
theorem op78_2 : rn_op 78 2 = some (.iconst 1, 1, 0, 0, 0) := by decide +kernel
theorem op78_3 : rn_op 78 3 = some (.ishr, 1, 0, 0, 0) := by decide +kernel
theorem op78_4 : rn_op 78 4 = some (.ior, 1, 0, 0, 0) := by decide +kernel
theorem op78_5 : rn_op 78 5 = some (.istore_n 1, 1, 0, 0, 0) := by decide +kernel
theorem op78_6 : rn_op 78 6 = some (.iload_n 1, 1, 0, 0, 0) := by decide +kernel
theorem op78_7 : rn_op 78 7 = some (.iload_n 1, 1, 0, 0, 0) := by decide +kernel
theorem op78_8 : rn_op 78 8 = some (.iconst 2, 1, 0, 0, 0) := by decide +kernel
theorem op78_9 : rn_op 78 9 = some (.ishr, 1, 0, 0, 0) := by decide +kernel
theorem op78_10 : rn_op 78 10 = some (.ior, 1, 0, 0, 0) := by decide +kernel
theorem op78_11 : rn_op 78 11 = some (.sipush 4369, 3, 0, 0, 0) := by decide +kernel
theorem op78_14 : rn_op 78 14 = some (.iand, 1, 0, 0, 0) := by decide +kernel
theorem op78_15 : rn_op 78 15 = some (.ireturn, 1, 0, 0, 0) := by decide +kernel
def se_chairsIn (n : Nat) (a0 : Int32) (m : rn_Mem) : Option (Int32 × rn_Mem) :=
  (some (a0 ||| (a0 >>> (1 &&& 31)))).bind fun (x1 : Int32) =>
  some ((x1 ||| (x1 >>> (2 &&& 31))) &&& 4369, m)
set_option maxHeartbeats 4000000 in
set_option maxRecDepth 20000 in
theorem se_chairsIn_ok (xs : List Int32) {d : Nat} (hd : 0 ≤ d) {n : Nat} {a0 : Int32} {m mO : rn_Mem} {rO : Int32} (h : se_chairsIn n a0 m = some (rO, mO)) : rn_R xs d 78 0 (rn_ent 2 [.int a0]) [] (rn_SH, m) (some (.int rO)) (rn_SH, mO) := by
  unfold se_chairsIn at h
  show rn_R xs d 78 0 [some (.int a0), none] [] (rn_SH, m) (some (.int rO)) (rn_SH, mO)
  refine rx_p (L2 := [some (.int a0), none]) (S2 := [.int a0]) (pc2 := 1) op78_0 rfl rfl ?_
  refine rx_p (L2 := [some (.int a0), none]) (S2 := [.int a0, .int a0]) (pc2 := 2) op78_1 rfl rfl ?_
  refine rx_ic (v := 1) (pc2 := 3) op78_2 (by decide) rfl ?_
  refine rx_p (L2 := [some (.int a0), none]) (S2 := [.int (a0 >>> (1 &&& 31)), .int a0]) (pc2 := 4) op78_3 rfl rfl ?_
  refine rx_p (L2 := [some (.int a0), none]) (S2 := [.int (a0 ||| (a0 >>> (1 &&& 31)))]) (pc2 := 5) op78_4 rfl rfl ?_
  obtain ⟨x1, ex1, h⟩ := rq_bv h
  refine rx_s (v := x1) (L2 := [some (.int a0), some (.int x1)]) (pc2 := 6) op78_5 ex1 rfl rfl ?_
  refine rx_p (L2 := [some (.int a0), some (.int x1)]) (S2 := [.int x1]) (pc2 := 7) op78_6 rfl rfl ?_
  refine rx_p (L2 := [some (.int a0), some (.int x1)]) (S2 := [.int x1, .int x1]) (pc2 := 8) op78_7 rfl rfl ?_
  refine rx_ic (v := 2) (pc2 := 9) op78_8 (by decide) rfl ?_
  refine rx_p (L2 := [some (.int a0), some (.int x1)]) (S2 := [.int (x1 >>> (2 &&& 31)), .int x1]) (pc2 := 10) op78_9 rfl rfl ?_
  refine rx_p (L2 := [some (.int a0), some (.int x1)]) (S2 := [.int (x1 ||| (x1 >>> (2 &&& 31)))]) (pc2 := 11) op78_10 rfl rfl ?_
  refine rx_sp (v := 4369) (pc2 := 14) op78_11 (by decide) rfl ?_
  refine rx_p (L2 := [some (.int a0), some (.int x1)]) (S2 := [.int ((x1 ||| (x1 >>> (2 &&& 31))) &&& 4369)]) (pc2 := 15) op78_14 rfl rfl ?_
  obtain ⟨rfl, rfl⟩ := rq_ret h
  exact ry_ri op78_15 ms_78 rfl
/-! se_mayLead -/
theorem op79_0 : rn_op 79 0 = some (.iload_n 1, 1, 0, 0, 0) := by decide +kernel
theorem op79_1 : rn_op 79 1 = some (.ifCond .ne 26, 3, 0, 0, 0) := by decide +kernel
theorem op79_4 : rn_op 79 4 = some (.aload_n 0, 1, 0, 0, 0) := by decide +kernel
theorem op79_5 : rn_op 79 5 = some (.getfield 12, 3, 4, 0, 3) := by decide +kernel
theorem op79_8 : rn_op 79 8 = some (.getfield 159, 3, 1, 8, 0) := by decide +kernel
theorem op79_11 : rn_op 79 11 = some (.ifCond .lt 16, 3, 0, 0, 0) := by decide +kernel
theorem op79_14 : rn_op 79 14 = some (.iload_n 2, 1, 0, 0, 0) := by decide +kernel
theorem op79_15 : rn_op 79 15 = some (.aload_n 0, 1, 0, 0, 0) := by decide +kernel
theorem op79_16 : rn_op 79 16 = some (.getfield 12, 3, 4, 0, 3) := by decide +kernel
theorem op79_19 : rn_op 79 19 = some (.getfield 159, 3, 1, 8, 0) := by decide +kernel
theorem op79_22 : rn_op 79 22 = some (.if_icmp .eq 5, 3, 0, 0, 0) := by decide +kernel
theorem op79_25 : rn_op 79 25 = some (.iconst 0, 1, 0, 0, 0) := by decide +kernel
theorem op79_26 : rn_op 79 26 = some (.ireturn, 1, 0, 0, 0) := by decide +kernel
theorem op79_27 : rn_op 79 27 = some (.aload_n 0, 1, 0, 0, 0) := by decide +kernel
theorem op79_28 : rn_op 79 28 = some (.getfield 12, 3, 4, 0, 3) := by decide +kernel
theorem op79_31 : rn_op 79 31 = some (.getfield 156, 3, 1, 6, 0) := by decide +kernel
theorem op79_34 : rn_op 79 34 = some (.iconst 1, 1, 0, 0, 0) := by decide +kernel
theorem op79_35 : rn_op 79 35 = some (.if_icmp .ne 18, 3, 0, 0, 0) := by decide +kernel
theorem op79_38 : rn_op 79 38 = some (.iload_n 3, 1, 0, 0, 0) := by decide +kernel
theorem op79_39 : rn_op 79 39 = some (.ifCond .lt 8, 3, 0, 0, 0) := by decide +kernel
theorem op79_42 : rn_op 79 42 = some (.iload_n 2, 1, 0, 0, 0) := by decide +kernel
theorem op79_43 : rn_op 79 43 = some (.iload_n 3, 1, 0, 0, 0) := by decide +kernel
theorem op79_44 : rn_op 79 44 = some (.if_icmp .ne 7, 3, 0, 0, 0) := by decide +kernel
theorem op79_47 : rn_op 79 47 = some (.iconst 1, 1, 0, 0, 0) := by decide +kernel
theorem op79_48 : rn_op 79 48 = some (.goto 4, 3, 0, 0, 0) := by decide +kernel
theorem op79_51 : rn_op 79 51 = some (.iconst 0, 1, 0, 0, 0) := by decide +kernel
theorem op79_52 : rn_op 79 52 = some (.ireturn, 1, 0, 0, 0) := by decide +kernel
theorem op79_53 : rn_op 79 53 = some (.iload_n 1, 1, 0, 0, 0) := by decide +kernel
theorem op79_54 : rn_op 79 54 = some (.ifCond .eq 12, 3, 0, 0, 0) := by decide +kernel
theorem op79_57 : rn_op 79 57 = some (.aload_n 0, 1, 0, 0, 0) := by decide +kernel
theorem op79_58 : rn_op 79 58 = some (.getfield 42, 3, 4, 5, 3) := by decide +kernel
theorem op79_61 : rn_op 79 61 = some (.iload_n 2, 1, 0, 0, 0) := by decide +kernel
theorem op79_62 : rn_op 79 62 = some (.iaload, 1, 0, 0, 0) := by decide +kernel
theorem op79_63 : rn_op 79 63 = some (.ifCond .le 7, 3, 0, 0, 0) := by decide +kernel
theorem op79_66 : rn_op 79 66 = some (.iconst 1, 1, 0, 0, 0) := by decide +kernel
theorem op79_67 : rn_op 79 67 = some (.goto 4, 3, 0, 0, 0) := by decide +kernel
theorem op79_70 : rn_op 79 70 = some (.iconst 0, 1, 0, 0, 0) := by decide +kernel
theorem op79_71 : rn_op 79 71 = some (.ireturn, 1, 0, 0, 0) := by decide +kernel
def se_mayLead (n : Nat) (a1 : Int32) (a2 : Int32) (a3 : Int32) (m : rn_Mem) : Option (Int32 × rn_Mem) :=
  if a1 = 0 then
    if (m.1 52 8) < 0 then
      if (m.1 52 6) = 1 then
        if a3 < 0 then
          some (1, m)
        else
          if a2 = a3 then
            some (1, m)
          else
            some (0, m)
      else
        if a1 = 0 then
          some (1, m)
        else
          if rn_in a2 4 = true then
            if 0 < (m.1 64 a2.toNatClampNeg) then
              some (1, m)
            else
              some (0, m)
          else none
    else
      if a2 = (m.1 52 8) then
        if (m.1 52 6) = 1 then
          if a3 < 0 then
            some (1, m)
          else
            if a2 = a3 then
              some (1, m)
            else
              some (0, m)
        else
          if a1 = 0 then
            some (1, m)
          else
            if rn_in a2 4 = true then
              if 0 < (m.1 64 a2.toNatClampNeg) then
                some (1, m)
              else
                some (0, m)
            else none
      else
        some (0, m)
  else
    if (m.1 52 6) = 1 then
      if a3 < 0 then
        some (1, m)
      else
        if a2 = a3 then
          some (1, m)
        else
          some (0, m)
    else
      if a1 = 0 then
        some (1, m)
      else
        if rn_in a2 4 = true then
          if 0 < (m.1 64 a2.toNatClampNeg) then
            some (1, m)
          else
            some (0, m)
        else none
set_option maxHeartbeats 4000000 in
set_option maxRecDepth 20000 in
theorem se_mayLead_ok (xs : List Int32) {d : Nat} (hd : 0 ≤ d) {n : Nat} {a1 : Int32} {a2 : Int32} {a3 : Int32} {m mO : rn_Mem} {rO : Int32} (h : se_mayLead n a1 a2 a3 m = some (rO, mO)) : rn_R xs d 79 0 (rn_ent 4 [.ref 51, .int a1, .int a2, .int a3]) [] (rn_SH, m) (some (.int rO)) (rn_SH, mO) := by
  unfold se_mayLead at h
  show rn_R xs d 79 0 [some (.ref 51), some (.int a1), some (.int a2), some (.int a3)] [] (rn_SH, m) (some (.int rO)) (rn_SH, mO)
  refine rx_p (L2 := [some (.ref 51), some (.int a1), some (.int a2), some (.int a3)]) (S2 := [.int a1]) (pc2 := 1) op79_0 rfl rfl ?_
  refine ry_if_ne (tgt := 27) (pc2 := 4) op79_1 (by decide) (by decide) rfl (fun b1 => ?_) (fun b1 => ?_)
  · have h := (if_pos b1).symm.trans h
    refine rx_p (L2 := [some (.ref 51), some (.int a1), some (.int a2), some (.int a3)]) (S2 := [.ref 51]) (pc2 := 5) op79_4 rfl rfl ?_
    refine rx_gf (v := .ref 52) (pc2 := 8) op79_5 sp_51 rfl rfl rfl ?_
    refine rx_gf (v := .int (m.1 52 8)) (pc2 := 11) op79_8 sp_52 rfl rfl rfl ?_
    refine ry_if_lt (tgt := 27) (pc2 := 14) op79_11 (by decide) (by decide) rfl (fun b4 => ?_) (fun b4 => ?_)
    · have h := (if_pos b4).symm.trans h
      refine rx_p (L2 := [some (.ref 51), some (.int a1), some (.int a2), some (.int a3)]) (S2 := [.ref 51]) (pc2 := 28) op79_27 rfl rfl ?_
      refine rx_gf (v := .ref 52) (pc2 := 31) op79_28 sp_51 rfl rfl rfl ?_
      refine rx_gf (v := .int (m.1 52 6)) (pc2 := 34) op79_31 sp_52 rfl rfl rfl ?_
      refine rx_ic (v := 1) (pc2 := 35) op79_34 (by decide) rfl ?_
      refine ry_ic_ne (tgt := 53) (pc2 := 38) op79_35 (by decide) (by decide) rfl (fun b6 => ?_) (fun b6 => ?_)
      · have h := (if_pos b6).symm.trans h
        refine rx_p (L2 := [some (.ref 51), some (.int a1), some (.int a2), some (.int a3)]) (S2 := [.int a3]) (pc2 := 39) op79_38 rfl rfl ?_
        refine ry_if_lt (tgt := 47) (pc2 := 42) op79_39 (by decide) (by decide) rfl (fun b7 => ?_) (fun b7 => ?_)
        · have h := (if_pos b7).symm.trans h
          refine rx_ic (v := 1) (pc2 := 48) op79_47 (by decide) rfl ?_
          refine ry_go (tgt := 52) op79_48 (by decide) (by decide) ?_
          obtain ⟨rfl, rfl⟩ := rq_ret h
          exact ry_rz (x := 1) op79_52 ms_79 rfl (by decide)
        · have h := (if_neg b7).symm.trans h
          refine rx_p (L2 := [some (.ref 51), some (.int a1), some (.int a2), some (.int a3)]) (S2 := [.int a2]) (pc2 := 43) op79_42 rfl rfl ?_
          refine rx_p (L2 := [some (.ref 51), some (.int a1), some (.int a2), some (.int a3)]) (S2 := [.int a3, .int a2]) (pc2 := 44) op79_43 rfl rfl ?_
          refine ry_ic_ne (tgt := 51) (pc2 := 47) op79_44 (by decide) (by decide) rfl (fun b8 => ?_) (fun b8 => ?_)
          · have h := (if_pos b8).symm.trans h
            refine rx_ic (v := 1) (pc2 := 48) op79_47 (by decide) rfl ?_
            refine ry_go (tgt := 52) op79_48 (by decide) (by decide) ?_
            obtain ⟨rfl, rfl⟩ := rq_ret h
            exact ry_rz (x := 1) op79_52 ms_79 rfl (by decide)
          · have h := (if_neg b8).symm.trans h
            refine rx_ic (v := 0) (pc2 := 52) op79_51 (by decide) rfl ?_
            obtain ⟨rfl, rfl⟩ := rq_ret h
            exact ry_rz (x := 0) op79_52 ms_79 rfl (by decide)
      · have h := (if_neg b6).symm.trans h
        refine rx_p (L2 := [some (.ref 51), some (.int a1), some (.int a2), some (.int a3)]) (S2 := [.int a1]) (pc2 := 54) op79_53 rfl rfl ?_
        refine ry_if_eq (tgt := 66) (pc2 := 57) op79_54 (by decide) (by decide) rfl (fun b9 => ?_) (fun b9 => ?_)
        · have h := (if_pos b9).symm.trans h
          refine rx_ic (v := 1) (pc2 := 67) op79_66 (by decide) rfl ?_
          refine ry_go (tgt := 71) op79_67 (by decide) (by decide) ?_
          obtain ⟨rfl, rfl⟩ := rq_ret h
          exact ry_rz (x := 1) op79_71 ms_79 rfl (by decide)
        · have h := (if_neg b9).symm.trans h
          refine rx_p (L2 := [some (.ref 51), some (.int a1), some (.int a2), some (.int a3)]) (S2 := [.ref 51]) (pc2 := 58) op79_57 rfl rfl ?_
          refine rx_gf (v := .ref 64) (pc2 := 61) op79_58 sp_51 rfl rfl rfl ?_
          refine rx_p (L2 := [some (.ref 51), some (.int a1), some (.int a2), some (.int a3)]) (S2 := [.int a2, .ref 64]) (pc2 := 62) op79_61 rfl rfl ?_
          obtain ⟨k10, h⟩ := rq_chk h
          refine rx_ia (pc2 := 63) op79_62 (rn_shlt sp_64) sp_64 k10 rfl rfl ?_
          refine ry_if_le (tgt := 70) (pc2 := 66) op79_63 (by decide) (by decide) rfl (fun b11 => ?_) (fun b11 => ?_)
          · have h := (if_pos b11).symm.trans h
            refine rx_ic (v := 1) (pc2 := 67) op79_66 (by decide) rfl ?_
            refine ry_go (tgt := 71) op79_67 (by decide) (by decide) ?_
            obtain ⟨rfl, rfl⟩ := rq_ret h
            exact ry_rz (x := 1) op79_71 ms_79 rfl (by decide)
          · have h := (if_neg b11).symm.trans h
            refine rx_ic (v := 0) (pc2 := 71) op79_70 (by decide) rfl ?_
            obtain ⟨rfl, rfl⟩ := rq_ret h
            exact ry_rz (x := 0) op79_71 ms_79 rfl (by decide)
    · have h := (if_neg b4).symm.trans h
      refine rx_p (L2 := [some (.ref 51), some (.int a1), some (.int a2), some (.int a3)]) (S2 := [.int a2]) (pc2 := 15) op79_14 rfl rfl ?_
      refine rx_p (L2 := [some (.ref 51), some (.int a1), some (.int a2), some (.int a3)]) (S2 := [.ref 51, .int a2]) (pc2 := 16) op79_15 rfl rfl ?_
      refine rx_gf (v := .ref 52) (pc2 := 19) op79_16 sp_51 rfl rfl rfl ?_
      refine rx_gf (v := .int (m.1 52 8)) (pc2 := 22) op79_19 sp_52 rfl rfl rfl ?_
      refine ry_ic_eq (tgt := 27) (pc2 := 25) op79_22 (by decide) (by decide) rfl (fun b12 => ?_) (fun b12 => ?_)
      · have h := (if_pos b12).symm.trans h
        refine rx_p (L2 := [some (.ref 51), some (.int a1), some (.int a2), some (.int a3)]) (S2 := [.ref 51]) (pc2 := 28) op79_27 rfl rfl ?_
        refine rx_gf (v := .ref 52) (pc2 := 31) op79_28 sp_51 rfl rfl rfl ?_
        refine rx_gf (v := .int (m.1 52 6)) (pc2 := 34) op79_31 sp_52 rfl rfl rfl ?_
        refine rx_ic (v := 1) (pc2 := 35) op79_34 (by decide) rfl ?_
        refine ry_ic_ne (tgt := 53) (pc2 := 38) op79_35 (by decide) (by decide) rfl (fun b13 => ?_) (fun b13 => ?_)
        · have h := (if_pos b13).symm.trans h
          refine rx_p (L2 := [some (.ref 51), some (.int a1), some (.int a2), some (.int a3)]) (S2 := [.int a3]) (pc2 := 39) op79_38 rfl rfl ?_
          refine ry_if_lt (tgt := 47) (pc2 := 42) op79_39 (by decide) (by decide) rfl (fun b14 => ?_) (fun b14 => ?_)
          · have h := (if_pos b14).symm.trans h
            refine rx_ic (v := 1) (pc2 := 48) op79_47 (by decide) rfl ?_
            refine ry_go (tgt := 52) op79_48 (by decide) (by decide) ?_
            obtain ⟨rfl, rfl⟩ := rq_ret h
            exact ry_rz (x := 1) op79_52 ms_79 rfl (by decide)
          · have h := (if_neg b14).symm.trans h
            refine rx_p (L2 := [some (.ref 51), some (.int a1), some (.int a2), some (.int a3)]) (S2 := [.int a2]) (pc2 := 43) op79_42 rfl rfl ?_
            refine rx_p (L2 := [some (.ref 51), some (.int a1), some (.int a2), some (.int a3)]) (S2 := [.int a3, .int a2]) (pc2 := 44) op79_43 rfl rfl ?_
            refine ry_ic_ne (tgt := 51) (pc2 := 47) op79_44 (by decide) (by decide) rfl (fun b15 => ?_) (fun b15 => ?_)
            · have h := (if_pos b15).symm.trans h
              refine rx_ic (v := 1) (pc2 := 48) op79_47 (by decide) rfl ?_
              refine ry_go (tgt := 52) op79_48 (by decide) (by decide) ?_
              obtain ⟨rfl, rfl⟩ := rq_ret h
              exact ry_rz (x := 1) op79_52 ms_79 rfl (by decide)
            · have h := (if_neg b15).symm.trans h
              refine rx_ic (v := 0) (pc2 := 52) op79_51 (by decide) rfl ?_
              obtain ⟨rfl, rfl⟩ := rq_ret h
              exact ry_rz (x := 0) op79_52 ms_79 rfl (by decide)
        · have h := (if_neg b13).symm.trans h
          refine rx_p (L2 := [some (.ref 51), some (.int a1), some (.int a2), some (.int a3)]) (S2 := [.int a1]) (pc2 := 54) op79_53 rfl rfl ?_
          refine ry_if_eq (tgt := 66) (pc2 := 57) op79_54 (by decide) (by decide) rfl (fun b16 => ?_) (fun b16 => ?_)
          · have h := (if_pos b16).symm.trans h
            refine rx_ic (v := 1) (pc2 := 67) op79_66 (by decide) rfl ?_
            refine ry_go (tgt := 71) op79_67 (by decide) (by decide) ?_
            obtain ⟨rfl, rfl⟩ := rq_ret h
            exact ry_rz (x := 1) op79_71 ms_79 rfl (by decide)
          · have h := (if_neg b16).symm.trans h
            refine rx_p (L2 := [some (.ref 51), some (.int a1), some (.int a2), some (.int a3)]) (S2 := [.ref 51]) (pc2 := 58) op79_57 rfl rfl ?_
            refine rx_gf (v := .ref 64) (pc2 := 61) op79_58 sp_51 rfl rfl rfl ?_
            refine rx_p (L2 := [some (.ref 51), some (.int a1), some (.int a2), some (.int a3)]) (S2 := [.int a2, .ref 64]) (pc2 := 62) op79_61 rfl rfl ?_
            obtain ⟨k17, h⟩ := rq_chk h
            refine rx_ia (pc2 := 63) op79_62 (rn_shlt sp_64) sp_64 k17 rfl rfl ?_
            refine ry_if_le (tgt := 70) (pc2 := 66) op79_63 (by decide) (by decide) rfl (fun b18 => ?_) (fun b18 => ?_)
            · have h := (if_pos b18).symm.trans h
              refine rx_ic (v := 1) (pc2 := 67) op79_66 (by decide) rfl ?_
              refine ry_go (tgt := 71) op79_67 (by decide) (by decide) ?_
              obtain ⟨rfl, rfl⟩ := rq_ret h
              exact ry_rz (x := 1) op79_71 ms_79 rfl (by decide)
            · have h := (if_neg b18).symm.trans h
              refine rx_ic (v := 0) (pc2 := 71) op79_70 (by decide) rfl ?_
              obtain ⟨rfl, rfl⟩ := rq_ret h
              exact ry_rz (x := 0) op79_71 ms_79 rfl (by decide)
      · have h := (if_neg b12).symm.trans h
        refine rx_ic (v := 0) (pc2 := 26) op79_25 (by decide) rfl ?_
        obtain ⟨rfl, rfl⟩ := rq_ret h
        exact ry_rz (x := 0) op79_26 ms_79 rfl (by decide)
  · have h := (if_neg b1).symm.trans h
    refine rx_p (L2 := [some (.ref 51), some (.int a1), some (.int a2), some (.int a3)]) (S2 := [.ref 51]) (pc2 := 28) op79_27 rfl rfl ?_
    refine rx_gf (v := .ref 52) (pc2 := 31) op79_28 sp_51 rfl rfl rfl ?_
    refine rx_gf (v := .int (m.1 52 6)) (pc2 := 34) op79_31 sp_52 rfl rfl rfl ?_
    refine rx_ic (v := 1) (pc2 := 35) op79_34 (by decide) rfl ?_
    refine ry_ic_ne (tgt := 53) (pc2 := 38) op79_35 (by decide) (by decide) rfl (fun b19 => ?_) (fun b19 => ?_)
    · have h := (if_pos b19).symm.trans h
      refine rx_p (L2 := [some (.ref 51), some (.int a1), some (.int a2), some (.int a3)]) (S2 := [.int a3]) (pc2 := 39) op79_38 rfl rfl ?_
      refine ry_if_lt (tgt := 47) (pc2 := 42) op79_39 (by decide) (by decide) rfl (fun b20 => ?_) (fun b20 => ?_)
      · have h := (if_pos b20).symm.trans h
        refine rx_ic (v := 1) (pc2 := 48) op79_47 (by decide) rfl ?_
        refine ry_go (tgt := 52) op79_48 (by decide) (by decide) ?_
        obtain ⟨rfl, rfl⟩ := rq_ret h
        exact ry_rz (x := 1) op79_52 ms_79 rfl (by decide)
      · have h := (if_neg b20).symm.trans h
        refine rx_p (L2 := [some (.ref 51), some (.int a1), some (.int a2), some (.int a3)]) (S2 := [.int a2]) (pc2 := 43) op79_42 rfl rfl ?_
        refine rx_p (L2 := [some (.ref 51), some (.int a1), some (.int a2), some (.int a3)]) (S2 := [.int a3, .int a2]) (pc2 := 44) op79_43 rfl rfl ?_
        refine ry_ic_ne (tgt := 51) (pc2 := 47) op79_44 (by decide) (by decide) rfl (fun b21 => ?_) (fun b21 => ?_)
        · have h := (if_pos b21).symm.trans h
          refine rx_ic (v := 1) (pc2 := 48) op79_47 (by decide) rfl ?_
          refine ry_go (tgt := 52) op79_48 (by decide) (by decide) ?_
          obtain ⟨rfl, rfl⟩ := rq_ret h
          exact ry_rz (x := 1) op79_52 ms_79 rfl (by decide)
        · have h := (if_neg b21).symm.trans h
          refine rx_ic (v := 0) (pc2 := 52) op79_51 (by decide) rfl ?_
          obtain ⟨rfl, rfl⟩ := rq_ret h
          exact ry_rz (x := 0) op79_52 ms_79 rfl (by decide)
    · have h := (if_neg b19).symm.trans h
      refine rx_p (L2 := [some (.ref 51), some (.int a1), some (.int a2), some (.int a3)]) (S2 := [.int a1]) (pc2 := 54) op79_53 rfl rfl ?_
      refine ry_if_eq (tgt := 66) (pc2 := 57) op79_54 (by decide) (by decide) rfl (fun b22 => ?_) (fun b22 => ?_)
      · have h := (if_pos b22).symm.trans h
        refine rx_ic (v := 1) (pc2 := 67) op79_66 (by decide) rfl ?_
        refine ry_go (tgt := 71) op79_67 (by decide) (by decide) ?_
        obtain ⟨rfl, rfl⟩ := rq_ret h
        exact ry_rz (x := 1) op79_71 ms_79 rfl (by decide)
      · have h := (if_neg b22).symm.trans h
        refine rx_p (L2 := [some (.ref 51), some (.int a1), some (.int a2), some (.int a3)]) (S2 := [.ref 51]) (pc2 := 58) op79_57 rfl rfl ?_
        refine rx_gf (v := .ref 64) (pc2 := 61) op79_58 sp_51 rfl rfl rfl ?_
        refine rx_p (L2 := [some (.ref 51), some (.int a1), some (.int a2), some (.int a3)]) (S2 := [.int a2, .ref 64]) (pc2 := 62) op79_61 rfl rfl ?_
        obtain ⟨k23, h⟩ := rq_chk h
        refine rx_ia (pc2 := 63) op79_62 (rn_shlt sp_64) sp_64 k23 rfl rfl ?_
        refine ry_if_le (tgt := 70) (pc2 := 66) op79_63 (by decide) (by decide) rfl (fun b24 => ?_) (fun b24 => ?_)
        · have h := (if_pos b24).symm.trans h
          refine rx_ic (v := 1) (pc2 := 67) op79_66 (by decide) rfl ?_
          refine ry_go (tgt := 71) op79_67 (by decide) (by decide) ?_
          obtain ⟨rfl, rfl⟩ := rq_ret h
          exact ry_rz (x := 1) op79_71 ms_79 rfl (by decide)
        · have h := (if_neg b24).symm.trans h
          refine rx_ic (v := 0) (pc2 := 71) op79_70 (by decide) rfl ?_
          obtain ⟨rfl, rfl⟩ := rq_ret h
          exact ry_rz (x := 0) op79_71 ms_79 rfl (by decide)
/-! ja_bitCount -/
theorem op80_0 : rn_op 80 0 = some (.iload_n 0, 1, 0, 0, 0) := by decide +kernel
theorem op80_1 : rn_op 80 1 = some (.iload_n 0, 1, 0, 0, 0) := by decide +kernel
theorem op80_2 : rn_op 80 2 = some (.iconst 1, 1, 0, 0, 0) := by decide +kernel
theorem op80_3 : rn_op 80 3 = some (.iushr, 1, 0, 0, 0) := by decide +kernel
theorem op80_4 : rn_op 80 4 = some (.ldc_w 265, 3, 1431655765, 0, 0) := by decide +kernel
theorem op80_7 : rn_op 80 7 = some (.iand, 1, 0, 0, 0) := by decide +kernel
theorem op80_8 : rn_op 80 8 = some (.isub, 1, 0, 0, 0) := by decide +kernel
theorem op80_9 : rn_op 80 9 = some (.istore_n 0, 1, 0, 0, 0) := by decide +kernel
theorem op80_10 : rn_op 80 10 = some (.iload_n 0, 1, 0, 0, 0) := by decide +kernel
theorem op80_11 : rn_op 80 11 = some (.ldc_w 266, 3, 858993459, 0, 0) := by decide +kernel
theorem op80_14 : rn_op 80 14 = some (.iand, 1, 0, 0, 0) := by decide +kernel
theorem op80_15 : rn_op 80 15 = some (.iload_n 0, 1, 0, 0, 0) := by decide +kernel
theorem op80_16 : rn_op 80 16 = some (.iconst 2, 1, 0, 0, 0) := by decide +kernel
theorem op80_17 : rn_op 80 17 = some (.iushr, 1, 0, 0, 0) := by decide +kernel
theorem op80_18 : rn_op 80 18 = some (.ldc_w 266, 3, 858993459, 0, 0) := by decide +kernel
theorem op80_21 : rn_op 80 21 = some (.iand, 1, 0, 0, 0) := by decide +kernel
theorem op80_22 : rn_op 80 22 = some (.iadd, 1, 0, 0, 0) := by decide +kernel
theorem op80_23 : rn_op 80 23 = some (.istore_n 0, 1, 0, 0, 0) := by decide +kernel
theorem op80_24 : rn_op 80 24 = some (.iload_n 0, 1, 0, 0, 0) := by decide +kernel
theorem op80_25 : rn_op 80 25 = some (.iload_n 0, 1, 0, 0, 0) := by decide +kernel
theorem op80_26 : rn_op 80 26 = some (.iconst 4, 1, 0, 0, 0) := by decide +kernel
theorem op80_27 : rn_op 80 27 = some (.iushr, 1, 0, 0, 0) := by decide +kernel
theorem op80_28 : rn_op 80 28 = some (.iadd, 1, 0, 0, 0) := by decide +kernel
theorem op80_29 : rn_op 80 29 = some (.ldc_w 267, 3, 252645135, 0, 0) := by decide +kernel
theorem op80_32 : rn_op 80 32 = some (.iand, 1, 0, 0, 0) := by decide +kernel
theorem op80_33 : rn_op 80 33 = some (.istore_n 0, 1, 0, 0, 0) := by decide +kernel
theorem op80_34 : rn_op 80 34 = some (.iload_n 0, 1, 0, 0, 0) := by decide +kernel
theorem op80_35 : rn_op 80 35 = some (.iload_n 0, 1, 0, 0, 0) := by decide +kernel
theorem op80_36 : rn_op 80 36 = some (.bipush 8, 2, 0, 0, 0) := by decide +kernel
theorem op80_38 : rn_op 80 38 = some (.iushr, 1, 0, 0, 0) := by decide +kernel
theorem op80_39 : rn_op 80 39 = some (.iadd, 1, 0, 0, 0) := by decide +kernel
theorem op80_40 : rn_op 80 40 = some (.istore_n 0, 1, 0, 0, 0) := by decide +kernel
theorem op80_41 : rn_op 80 41 = some (.iload_n 0, 1, 0, 0, 0) := by decide +kernel
theorem op80_42 : rn_op 80 42 = some (.iload_n 0, 1, 0, 0, 0) := by decide +kernel
theorem op80_43 : rn_op 80 43 = some (.bipush 16, 2, 0, 0, 0) := by decide +kernel
theorem op80_45 : rn_op 80 45 = some (.iushr, 1, 0, 0, 0) := by decide +kernel
theorem op80_46 : rn_op 80 46 = some (.iadd, 1, 0, 0, 0) := by decide +kernel
theorem op80_47 : rn_op 80 47 = some (.istore_n 0, 1, 0, 0, 0) := by decide +kernel
theorem op80_48 : rn_op 80 48 = some (.iload_n 0, 1, 0, 0, 0) := by decide +kernel
theorem op80_49 : rn_op 80 49 = some (.bipush 63, 2, 0, 0, 0) := by decide +kernel
theorem op80_51 : rn_op 80 51 = some (.iand, 1, 0, 0, 0) := by decide +kernel
theorem op80_52 : rn_op 80 52 = some (.ireturn, 1, 0, 0, 0) := by decide +kernel
def ja_bitCount (n : Nat) (a0 : Int32) (m : rn_Mem) : Option (Int32 × rn_Mem) :=
  (some (a0 - (((a0.toUInt32 >>> ((1 : Int32).toUInt32 &&& Int32.toUInt32 31)).toInt32) &&& 1431655765))).bind fun (x1 : Int32) =>
  (some ((x1 &&& 858993459) + (((x1.toUInt32 >>> ((2 : Int32).toUInt32 &&& Int32.toUInt32 31)).toInt32) &&& 858993459))).bind fun (x2 : Int32) =>
  (some ((x2 + ((x2.toUInt32 >>> ((4 : Int32).toUInt32 &&& Int32.toUInt32 31)).toInt32)) &&& 252645135)).bind fun (x3 : Int32) =>
  (some (x3 + ((x3.toUInt32 >>> ((8 : Int32).toUInt32 &&& Int32.toUInt32 31)).toInt32))).bind fun (x4 : Int32) =>
  (some (x4 + ((x4.toUInt32 >>> ((16 : Int32).toUInt32 &&& Int32.toUInt32 31)).toInt32))).bind fun (x5 : Int32) =>
  some (x5 &&& 63, m)
set_option maxHeartbeats 4000000 in
set_option maxRecDepth 20000 in
theorem ja_bitCount_ok (xs : List Int32) {d : Nat} (hd : 0 ≤ d) {n : Nat} {a0 : Int32} {m mO : rn_Mem} {rO : Int32} (h : ja_bitCount n a0 m = some (rO, mO)) : rn_R xs d 80 0 (rn_ent 1 [.int a0]) [] (rn_SH, m) (some (.int rO)) (rn_SH, mO) := by
  unfold ja_bitCount at h
  show rn_R xs d 80 0 [some (.int a0)] [] (rn_SH, m) (some (.int rO)) (rn_SH, mO)
  refine rx_p (L2 := [some (.int a0)]) (S2 := [.int a0]) (pc2 := 1) op80_0 rfl rfl ?_
  refine rx_p (L2 := [some (.int a0)]) (S2 := [.int a0, .int a0]) (pc2 := 2) op80_1 rfl rfl ?_
  refine rx_ic (v := 1) (pc2 := 3) op80_2 (by decide) rfl ?_
  refine rx_p (L2 := [some (.int a0)]) (S2 := [.int ((a0.toUInt32 >>> ((1 : Int32).toUInt32 &&& Int32.toUInt32 31)).toInt32), .int a0]) (pc2 := 4) op80_3 rfl rfl ?_
  refine rx_ldw (v := 1431655765) (pc2 := 7) op80_4 (by decide) rfl ?_
  refine rx_p (L2 := [some (.int a0)]) (S2 := [.int (((a0.toUInt32 >>> ((1 : Int32).toUInt32 &&& Int32.toUInt32 31)).toInt32) &&& 1431655765), .int a0]) (pc2 := 8) op80_7 rfl rfl ?_
  refine rx_p (L2 := [some (.int a0)]) (S2 := [.int (a0 - (((a0.toUInt32 >>> ((1 : Int32).toUInt32 &&& Int32.toUInt32 31)).toInt32) &&& 1431655765))]) (pc2 := 9) op80_8 rfl rfl ?_
  obtain ⟨x1, ex1, h⟩ := rq_bv h
  refine rx_s (v := x1) (L2 := [some (.int x1)]) (pc2 := 10) op80_9 ex1 rfl rfl ?_
  refine rx_p (L2 := [some (.int x1)]) (S2 := [.int x1]) (pc2 := 11) op80_10 rfl rfl ?_
  refine rx_ldw (v := 858993459) (pc2 := 14) op80_11 (by decide) rfl ?_
  refine rx_p (L2 := [some (.int x1)]) (S2 := [.int (x1 &&& 858993459)]) (pc2 := 15) op80_14 rfl rfl ?_
  refine rx_p (L2 := [some (.int x1)]) (S2 := [.int x1, .int (x1 &&& 858993459)]) (pc2 := 16) op80_15 rfl rfl ?_
  refine rx_ic (v := 2) (pc2 := 17) op80_16 (by decide) rfl ?_
  refine rx_p (L2 := [some (.int x1)]) (S2 := [.int ((x1.toUInt32 >>> ((2 : Int32).toUInt32 &&& Int32.toUInt32 31)).toInt32), .int (x1 &&& 858993459)]) (pc2 := 18) op80_17 rfl rfl ?_
  refine rx_ldw (v := 858993459) (pc2 := 21) op80_18 (by decide) rfl ?_
  refine rx_p (L2 := [some (.int x1)]) (S2 := [.int (((x1.toUInt32 >>> ((2 : Int32).toUInt32 &&& Int32.toUInt32 31)).toInt32) &&& 858993459), .int (x1 &&& 858993459)]) (pc2 := 22) op80_21 rfl rfl ?_
  refine rx_p (L2 := [some (.int x1)]) (S2 := [.int ((x1 &&& 858993459) + (((x1.toUInt32 >>> ((2 : Int32).toUInt32 &&& Int32.toUInt32 31)).toInt32) &&& 858993459))]) (pc2 := 23) op80_22 rfl rfl ?_
  obtain ⟨x2, ex2, h⟩ := rq_bv h
  refine rx_s (v := x2) (L2 := [some (.int x2)]) (pc2 := 24) op80_23 ex2 rfl rfl ?_
  refine rx_p (L2 := [some (.int x2)]) (S2 := [.int x2]) (pc2 := 25) op80_24 rfl rfl ?_
  refine rx_p (L2 := [some (.int x2)]) (S2 := [.int x2, .int x2]) (pc2 := 26) op80_25 rfl rfl ?_
  refine rx_ic (v := 4) (pc2 := 27) op80_26 (by decide) rfl ?_
  refine rx_p (L2 := [some (.int x2)]) (S2 := [.int ((x2.toUInt32 >>> ((4 : Int32).toUInt32 &&& Int32.toUInt32 31)).toInt32), .int x2]) (pc2 := 28) op80_27 rfl rfl ?_
  refine rx_p (L2 := [some (.int x2)]) (S2 := [.int (x2 + ((x2.toUInt32 >>> ((4 : Int32).toUInt32 &&& Int32.toUInt32 31)).toInt32))]) (pc2 := 29) op80_28 rfl rfl ?_
  refine rx_ldw (v := 252645135) (pc2 := 32) op80_29 (by decide) rfl ?_
  refine rx_p (L2 := [some (.int x2)]) (S2 := [.int ((x2 + ((x2.toUInt32 >>> ((4 : Int32).toUInt32 &&& Int32.toUInt32 31)).toInt32)) &&& 252645135)]) (pc2 := 33) op80_32 rfl rfl ?_
  obtain ⟨x3, ex3, h⟩ := rq_bv h
  refine rx_s (v := x3) (L2 := [some (.int x3)]) (pc2 := 34) op80_33 ex3 rfl rfl ?_
  refine rx_p (L2 := [some (.int x3)]) (S2 := [.int x3]) (pc2 := 35) op80_34 rfl rfl ?_
  refine rx_p (L2 := [some (.int x3)]) (S2 := [.int x3, .int x3]) (pc2 := 36) op80_35 rfl rfl ?_
  refine rx_bp (v := 8) (pc2 := 38) op80_36 (by decide) rfl ?_
  refine rx_p (L2 := [some (.int x3)]) (S2 := [.int ((x3.toUInt32 >>> ((8 : Int32).toUInt32 &&& Int32.toUInt32 31)).toInt32), .int x3]) (pc2 := 39) op80_38 rfl rfl ?_
  refine rx_p (L2 := [some (.int x3)]) (S2 := [.int (x3 + ((x3.toUInt32 >>> ((8 : Int32).toUInt32 &&& Int32.toUInt32 31)).toInt32))]) (pc2 := 40) op80_39 rfl rfl ?_
  obtain ⟨x4, ex4, h⟩ := rq_bv h
  refine rx_s (v := x4) (L2 := [some (.int x4)]) (pc2 := 41) op80_40 ex4 rfl rfl ?_
  refine rx_p (L2 := [some (.int x4)]) (S2 := [.int x4]) (pc2 := 42) op80_41 rfl rfl ?_
  refine rx_p (L2 := [some (.int x4)]) (S2 := [.int x4, .int x4]) (pc2 := 43) op80_42 rfl rfl ?_
  refine rx_bp (v := 16) (pc2 := 45) op80_43 (by decide) rfl ?_
  refine rx_p (L2 := [some (.int x4)]) (S2 := [.int ((x4.toUInt32 >>> ((16 : Int32).toUInt32 &&& Int32.toUInt32 31)).toInt32), .int x4]) (pc2 := 46) op80_45 rfl rfl ?_
  refine rx_p (L2 := [some (.int x4)]) (S2 := [.int (x4 + ((x4.toUInt32 >>> ((16 : Int32).toUInt32 &&& Int32.toUInt32 31)).toInt32))]) (pc2 := 47) op80_46 rfl rfl ?_
  obtain ⟨x5, ex5, h⟩ := rq_bv h
  refine rx_s (v := x5) (L2 := [some (.int x5)]) (pc2 := 48) op80_47 ex5 rfl rfl ?_
  refine rx_p (L2 := [some (.int x5)]) (S2 := [.int x5]) (pc2 := 49) op80_48 rfl rfl ?_
  refine rx_bp (v := 63) (pc2 := 51) op80_49 (by decide) rfl ?_
  refine rx_p (L2 := [some (.int x5)]) (S2 := [.int (x5 &&& 63)]) (pc2 := 52) op80_51 rfl rfl ?_
  obtain ⟨rfl, rfl⟩ := rq_ret h
  exact ry_ri op80_52 ms_80 rfl
/-! cl_againstTrick -/
theorem op81_0 : rn_op 81 0 = some (.iconst 0, 1, 0, 0, 0) := by decide +kernel
theorem op81_1 : rn_op 81 1 = some (.istore 6, 2, 0, 0, 0) := by decide +kernel
theorem op81_3 : rn_op 81 3 = some (.iconst 0, 1, 0, 0, 0) := by decide +kernel
theorem op81_4 : rn_op 81 4 = some (.istore 7, 2, 0, 0, 0) := by decide +kernel
theorem op81_6 : rn_op 81 6 = some (.iload 7, 2, 0, 0, 0) := by decide +kernel
theorem op81_8 : rn_op 81 8 = some (.aload_n 0, 1, 0, 0, 0) := by decide +kernel
theorem op81_9 : rn_op 81 9 = some (.getfield 37, 3, 0, 0, 0) := by decide +kernel
theorem op81_12 : rn_op 81 12 = some (.if_icmp .ge 177, 3, 0, 0, 0) := by decide +kernel
theorem op81_15 : rn_op 81 15 = some (.iconst 0, 1, 0, 0, 0) := by decide +kernel
theorem op81_16 : rn_op 81 16 = some (.istore 8, 2, 0, 0, 0) := by decide +kernel
theorem op81_18 : rn_op 81 18 = some (.aload_n 0, 1, 0, 0, 0) := by decide +kernel
theorem op81_19 : rn_op 81 19 = some (.getfield 9, 3, 0, 1, 3) := by decide +kernel
theorem op81_22 : rn_op 81 22 = some (.iload 7, 2, 0, 0, 0) := by decide +kernel
theorem op81_24 : rn_op 81 24 = some (.iaload, 1, 0, 0, 0) := by decide +kernel
theorem op81_25 : rn_op 81 25 = some (.tableswitch 144 1 3 #[27, 59, 98], 27, 0, 0, 0) := by decide +kernel
theorem op81_52 : rn_op 81 52 = some (.aload_n 0, 1, 0, 0, 0) := by decide +kernel
theorem op81_53 : rn_op 81 53 = some (.getfield 18, 3, 0, 3, 3) := by decide +kernel
theorem op81_56 : rn_op 81 56 = some (.iload 7, 2, 0, 0, 0) := by decide +kernel
theorem op81_58 : rn_op 81 58 = some (.iaload, 1, 0, 0, 0) := by decide +kernel
theorem op81_59 : rn_op 81 59 = some (.iload_n 1, 1, 0, 0, 0) := by decide +kernel
theorem op81_60 : rn_op 81 60 = some (.if_icmp .ne 18, 3, 0, 0, 0) := by decide +kernel
theorem op81_63 : rn_op 81 63 = some (.aload_n 0, 1, 0, 0, 0) := by decide +kernel
theorem op81_64 : rn_op 81 64 = some (.getfield 15, 3, 0, 2, 3) := by decide +kernel
theorem op81_67 : rn_op 81 67 = some (.iload 7, 2, 0, 0, 0) := by decide +kernel
theorem op81_69 : rn_op 81 69 = some (.iaload, 1, 0, 0, 0) := by decide +kernel
theorem op81_70 : rn_op 81 70 = some (.iload_n 2, 1, 0, 0, 0) := by decide +kernel
theorem op81_71 : rn_op 81 71 = some (.if_icmp .eq 7, 3, 0, 0, 0) := by decide +kernel
theorem op81_74 : rn_op 81 74 = some (.iconst 1, 1, 0, 0, 0) := by decide +kernel
theorem op81_75 : rn_op 81 75 = some (.goto 4, 3, 0, 0, 0) := by decide +kernel
theorem op81_78 : rn_op 81 78 = some (.iconst 0, 1, 0, 0, 0) := by decide +kernel
theorem op81_79 : rn_op 81 79 = some (.istore 8, 2, 0, 0, 0) := by decide +kernel
theorem op81_81 : rn_op 81 81 = some (.goto 88, 3, 0, 0, 0) := by decide +kernel
theorem op81_84 : rn_op 81 84 = some (.iload_n 3, 1, 0, 0, 0) := by decide +kernel
theorem op81_85 : rn_op 81 85 = some (.aload_n 0, 1, 0, 0, 0) := by decide +kernel
theorem op81_86 : rn_op 81 86 = some (.getfield 15, 3, 0, 2, 3) := by decide +kernel
theorem op81_89 : rn_op 81 89 = some (.iload 7, 2, 0, 0, 0) := by decide +kernel
theorem op81_91 : rn_op 81 91 = some (.iaload, 1, 0, 0, 0) := by decide +kernel
theorem op81_92 : rn_op 81 92 = some (.ishr, 1, 0, 0, 0) := by decide +kernel
theorem op81_93 : rn_op 81 93 = some (.iconst 1, 1, 0, 0, 0) := by decide +kernel
theorem op81_94 : rn_op 81 94 = some (.iand, 1, 0, 0, 0) := by decide +kernel
theorem op81_95 : rn_op 81 95 = some (.ifCond .eq 22, 3, 0, 0, 0) := by decide +kernel
theorem op81_98 : rn_op 81 98 = some (.iload 4, 2, 0, 0, 0) := by decide +kernel
theorem op81_100 : rn_op 81 100 = some (.aload_n 0, 1, 0, 0, 0) := by decide +kernel
theorem op81_101 : rn_op 81 101 = some (.getfield 18, 3, 0, 3, 3) := by decide +kernel
theorem op81_104 : rn_op 81 104 = some (.iload 7, 2, 0, 0, 0) := by decide +kernel
theorem op81_106 : rn_op 81 106 = some (.iaload, 1, 0, 0, 0) := by decide +kernel
theorem op81_107 : rn_op 81 107 = some (.ishr, 1, 0, 0, 0) := by decide +kernel
theorem op81_108 : rn_op 81 108 = some (.iconst 1, 1, 0, 0, 0) := by decide +kernel
theorem op81_109 : rn_op 81 109 = some (.iand, 1, 0, 0, 0) := by decide +kernel
theorem op81_110 : rn_op 81 110 = some (.ifCond .ne 7, 3, 0, 0, 0) := by decide +kernel
theorem op81_113 : rn_op 81 113 = some (.iconst 1, 1, 0, 0, 0) := by decide +kernel
theorem op81_114 : rn_op 81 114 = some (.goto 4, 3, 0, 0, 0) := by decide +kernel
theorem op81_117 : rn_op 81 117 = some (.iconst 0, 1, 0, 0, 0) := by decide +kernel
theorem op81_118 : rn_op 81 118 = some (.istore 8, 2, 0, 0, 0) := by decide +kernel
theorem op81_120 : rn_op 81 120 = some (.goto 49, 3, 0, 0, 0) := by decide +kernel
theorem op81_123 : rn_op 81 123 = some (.aload_n 0, 1, 0, 0, 0) := by decide +kernel
theorem op81_124 : rn_op 81 124 = some (.getfield 21, 3, 0, 4, 3) := by decide +kernel
theorem op81_127 : rn_op 81 127 = some (.iload 7, 2, 0, 0, 0) := by decide +kernel
theorem op81_129 : rn_op 81 129 = some (.iaload, 1, 0, 0, 0) := by decide +kernel
theorem op81_130 : rn_op 81 130 = some (.iload_n 1, 1, 0, 0, 0) := by decide +kernel
theorem op81_131 : rn_op 81 131 = some (.if_icmp .ne 32, 3, 0, 0, 0) := by decide +kernel
theorem op81_134 : rn_op 81 134 = some (.iload 5, 2, 0, 0, 0) := by decide +kernel
theorem op81_136 : rn_op 81 136 = some (.iconst 4, 1, 0, 0, 0) := by decide +kernel
theorem op81_137 : rn_op 81 137 = some (.aload_n 0, 1, 0, 0, 0) := by decide +kernel
theorem op81_138 : rn_op 81 138 = some (.getfield 15, 3, 0, 2, 3) := by decide +kernel
theorem op81_141 : rn_op 81 141 = some (.iload 7, 2, 0, 0, 0) := by decide +kernel
theorem op81_143 : rn_op 81 143 = some (.iaload, 1, 0, 0, 0) := by decide +kernel
theorem op81_144 : rn_op 81 144 = some (.imul, 1, 0, 0, 0) := by decide +kernel
theorem op81_145 : rn_op 81 145 = some (.aload_n 0, 1, 0, 0, 0) := by decide +kernel
theorem op81_146 : rn_op 81 146 = some (.getfield 18, 3, 0, 3, 3) := by decide +kernel
theorem op81_149 : rn_op 81 149 = some (.iload 7, 2, 0, 0, 0) := by decide +kernel
theorem op81_151 : rn_op 81 151 = some (.iaload, 1, 0, 0, 0) := by decide +kernel
theorem op81_152 : rn_op 81 152 = some (.iadd, 1, 0, 0, 0) := by decide +kernel
theorem op81_153 : rn_op 81 153 = some (.ishr, 1, 0, 0, 0) := by decide +kernel
theorem op81_154 : rn_op 81 154 = some (.iconst 1, 1, 0, 0, 0) := by decide +kernel
theorem op81_155 : rn_op 81 155 = some (.iand, 1, 0, 0, 0) := by decide +kernel
theorem op81_156 : rn_op 81 156 = some (.ifCond .eq 7, 3, 0, 0, 0) := by decide +kernel
theorem op81_159 : rn_op 81 159 = some (.iconst 1, 1, 0, 0, 0) := by decide +kernel
theorem op81_160 : rn_op 81 160 = some (.goto 4, 3, 0, 0, 0) := by decide +kernel
theorem op81_163 : rn_op 81 163 = some (.iconst 0, 1, 0, 0, 0) := by decide +kernel
theorem op81_164 : rn_op 81 164 = some (.istore 8, 2, 0, 0, 0) := by decide +kernel
theorem op81_166 : rn_op 81 166 = some (.goto 3, 3, 0, 0, 0) := by decide +kernel
theorem op81_169 : rn_op 81 169 = some (.iload 8, 2, 0, 0, 0) := by decide +kernel
theorem op81_171 : rn_op 81 171 = some (.ifCond .eq 12, 3, 0, 0, 0) := by decide +kernel
theorem op81_174 : rn_op 81 174 = some (.iload 6, 2, 0, 0, 0) := by decide +kernel
theorem op81_176 : rn_op 81 176 = some (.iconst 1, 1, 0, 0, 0) := by decide +kernel
theorem op81_177 : rn_op 81 177 = some (.iload 7, 2, 0, 0, 0) := by decide +kernel
theorem op81_179 : rn_op 81 179 = some (.ishl, 1, 0, 0, 0) := by decide +kernel
theorem op81_180 : rn_op 81 180 = some (.ior, 1, 0, 0, 0) := by decide +kernel
theorem op81_181 : rn_op 81 181 = some (.istore 6, 2, 0, 0, 0) := by decide +kernel
theorem op81_183 : rn_op 81 183 = some (.iinc 7 1, 3, 0, 0, 0) := by decide +kernel
theorem op81_186 : rn_op 81 186 = some (.goto (-180), 3, 0, 0, 0) := by decide +kernel
theorem op81_189 : rn_op 81 189 = some (.iload 6, 2, 0, 0, 0) := by decide +kernel
theorem op81_191 : rn_op 81 191 = some (.ireturn, 1, 0, 0, 0) := by decide +kernel
def cl_againstTrick_l6 (q0 : Nat) (a1 : Int32) (a2 : Int32) (a3 : Int32) (a4 : Int32) (a5 : Int32) : Nat → Int32 → Int32 → rn_Mem → Option (Int32 × rn_Mem)
  | 0, _, _, _ => none
  | n + 1, a6, a7, m =>
    if a7 < (m.1 q0 0) then
      if rn_in a7 6 = true then
        (show Option (Int32) from
          if (m.1 (q0 + 1) a7.toNatClampNeg) = 1 then
            if rn_in a7 6 = true then
              (show Option (Int32) from
                if (m.1 (q0 + 3) a7.toNatClampNeg) = a1 then
                  if rn_in a7 6 = true then
                    if (m.1 (q0 + 2) a7.toNatClampNeg) = a2 then
                      some (0)
                    else
                      some (1)
                  else none
                else
                  some (0)).bind fun x11 =>
              some (x11)
            else none
          else if (m.1 (q0 + 1) a7.toNatClampNeg) = 2 then
            if rn_in a7 6 = true then
              (show Option (Int32) from
                if ((a3 >>> ((m.1 (q0 + 2) a7.toNatClampNeg) &&& 31)) &&& 1) = 0 then
                  some (0)
                else
                  if rn_in a7 6 = true then
                    if ((a4 >>> ((m.1 (q0 + 3) a7.toNatClampNeg) &&& 31)) &&& 1) = 0 then
                      some (1)
                    else
                      some (0)
                  else none).bind fun x18 =>
              some (x18)
            else none
          else if (m.1 (q0 + 1) a7.toNatClampNeg) = 3 then
            if rn_in a7 6 = true then
              (show Option (Int32) from
                if (m.1 (q0 + 4) a7.toNatClampNeg) = a1 then
                  if rn_in a7 6 = true then
                    if rn_in a7 6 = true then
                      if ((a5 >>> ((((4 : Int32) * (m.1 (q0 + 2) a7.toNatClampNeg)) + (m.1 (q0 + 3) a7.toNatClampNeg)) &&& 31)) &&& 1) = 0 then
                        some (0)
                      else
                        some (1)
                    else none
                  else none
                else
                  some (0)).bind fun x26 =>
              some (x26)
            else none
          else 
            some (0)).bind fun x28 =>
        (show Option (Int32) from
          if x28 = 0 then
            some (a6)
          else
            (some (a6 ||| ((1 : Int32) <<< (a7 &&& 31)))).bind fun (x30 : Int32) =>
            some (x30)).bind fun x31 =>
        (some (a7 + 1)).bind fun (x33 : Int32) =>
        cl_againstTrick_l6 q0 a1 a2 a3 a4 a5 n x31 x33 m
      else none
    else
      some (a6, m)
def cl_againstTrick (n : Nat) (q0 : Nat) (a1 : Int32) (a2 : Int32) (a3 : Int32) (a4 : Int32) (a5 : Int32) (m : rn_Mem) : Option (Int32 × rn_Mem) :=
  (cl_againstTrick_l6 q0 a1 a2 a3 a4 a5 n 0 0 m).bind fun (x43, m36) =>
  some (x43, m36)
set_option maxHeartbeats 4000000 in
set_option maxRecDepth 20000 in
theorem cl_againstTrick_l6_ok (xs : List Int32) {d : Nat} {q0 : Nat} {a1 : Int32} {a2 : Int32} {a3 : Int32} {a4 : Int32} {a5 : Int32} {r : Option Value} {τ : rn_H} {out : Int32 × rn_Mem} (hr : ∀ (z6 : Int32) (mO : rn_Mem), out = (z6, mO) → ∀ (o0 o1 o2 o3 o4 o5 o7 o8 : Option Value), rn_R xs d 81 189 [o0, o1, o2, o3, o4, o5, some (.int z6), o7, o8] [] (rn_SH, mO) r τ) : ∀ (n : Nat) (a6 : Int32) (a7 : Int32) (o8 : Option Value) (m : rn_Mem), sA_Clues q0 → cl_againstTrick_l6 q0 a1 a2 a3 a4 a5 n a6 a7 m = some out → rn_R xs d 81 6 [some (.ref q0), some (.int a1), some (.int a2), some (.int a3), some (.int a4), some (.int a5), some (.int a6), some (.int a7), o8] [] (rn_SH, m) r τ := by
  intro n
  induction n with
  | zero =>
    intro _ _ _ _ _ h
    cases h
  | succ n ih =>
    intro a6 a7 o8 m hq0 h
    unfold cl_againstTrick_l6 at h
    try dsimp only at h
    refine rx_p (L2 := [some (.ref q0), some (.int a1), some (.int a2), some (.int a3), some (.int a4), some (.int a5), some (.int a6), some (.int a7), o8]) (S2 := [.int a7]) (pc2 := 8) op81_6 rfl rfl ?_
    refine rx_p (L2 := [some (.ref q0), some (.int a1), some (.int a2), some (.int a3), some (.int a4), some (.int a5), some (.int a6), some (.int a7), o8]) (S2 := [.ref q0, .int a7]) (pc2 := 9) op81_8 rfl rfl ?_
    refine rx_gf (v := .int (m.1 q0 0)) (pc2 := 12) op81_9 (hq0.1) rfl rfl rfl ?_
    refine ry_ic_ge (tgt := 189) (pc2 := 15) op81_12 (by decide) (by decide) rfl (fun b1 => ?_) (fun b1 => ?_)
    · have h := (if_pos b1).symm.trans h
      refine rx_ic (v := 0) (pc2 := 16) op81_15 (by decide) rfl ?_
      refine rx_s (L2 := [some (.ref q0), some (.int a1), some (.int a2), some (.int a3), some (.int a4), some (.int a5), some (.int a6), some (.int a7), some (.int 0)]) (pc2 := 18) op81_16 rfl rfl rfl ?_
      refine rx_p (L2 := [some (.ref q0), some (.int a1), some (.int a2), some (.int a3), some (.int a4), some (.int a5), some (.int a6), some (.int a7), some (.int 0)]) (S2 := [.ref q0]) (pc2 := 19) op81_18 rfl rfl ?_
      refine rx_gf (v := .ref (q0 + 1)) (pc2 := 22) op81_19 (hq0.1) rfl rfl rfl ?_
      refine rx_p (L2 := [some (.ref q0), some (.int a1), some (.int a2), some (.int a3), some (.int a4), some (.int a5), some (.int a6), some (.int a7), some (.int 0)]) (S2 := [.int a7, .ref (q0 + 1)]) (pc2 := 24) op81_22 rfl rfl ?_
      obtain ⟨k2, h⟩ := rq_chk h
      refine rx_ia (pc2 := 25) op81_24 (rn_shlt (hq0.2.1)) (hq0.2.1) k2 rfl rfl ?_
      obtain ⟨x28, gc35, h⟩ := rq_bind h
      try dsimp only at h
      have c35 : ∀ (_ : Unit), rn_R xs d 81 169 [some (.ref q0), some (.int a1), some (.int a2), some (.int a3), some (.int a4), some (.int a5), some (.int a6), some (.int a7), some (.int x28)] [] (rn_SH, m) r τ := by
        intro _
        refine rx_p (L2 := [some (.ref q0), some (.int a1), some (.int a2), some (.int a3), some (.int a4), some (.int a5), some (.int a6), some (.int a7), some (.int x28)]) (S2 := [.int x28]) (pc2 := 171) op81_169 rfl rfl ?_
        obtain ⟨x31, gc34, h⟩ := rq_bind h
        try dsimp only at h
        have c34 : ∀ (o32 : Option Value), rn_R xs d 81 183 [some (.ref q0), some (.int a1), some (.int a2), some (.int a3), some (.int a4), some (.int a5), some (.int x31), some (.int a7), o32] [] (rn_SH, m) r τ := by
          intro o32
          obtain ⟨x33, ex33, h⟩ := rq_bv h
          refine rx_inc (w := 1) (v := x33) (L2 := [some (.ref q0), some (.int a1), some (.int a2), some (.int a3), some (.int a4), some (.int a5), some (.int x31), some (.int x33), o32]) (pc2 := 186) op81_183 rfl (by decide) ex33 rfl rfl ?_
          refine ry_go (tgt := 6) op81_186 (by decide) (by decide) ?_
          exact ih _ _ _ _ hq0 h
        refine ry_if_eq (tgt := 183) (pc2 := 174) op81_171 (by decide) (by decide) rfl (fun b29 => ?_) (fun b29 => ?_)
        · have gc34 := (if_pos b29).symm.trans gc34
          cases gc34
          exact c34 _
        · have gc34 := (if_neg b29).symm.trans gc34
          refine rx_p (L2 := [some (.ref q0), some (.int a1), some (.int a2), some (.int a3), some (.int a4), some (.int a5), some (.int a6), some (.int a7), some (.int x28)]) (S2 := [.int a6]) (pc2 := 176) op81_174 rfl rfl ?_
          refine rx_ic (v := 1) (pc2 := 177) op81_176 (by decide) rfl ?_
          refine rx_p (L2 := [some (.ref q0), some (.int a1), some (.int a2), some (.int a3), some (.int a4), some (.int a5), some (.int a6), some (.int a7), some (.int x28)]) (S2 := [.int a7, .int 1, .int a6]) (pc2 := 179) op81_177 rfl rfl ?_
          refine rx_p (L2 := [some (.ref q0), some (.int a1), some (.int a2), some (.int a3), some (.int a4), some (.int a5), some (.int a6), some (.int a7), some (.int x28)]) (S2 := [.int ((1 : Int32) <<< (a7 &&& 31)), .int a6]) (pc2 := 180) op81_179 rfl rfl ?_
          refine rx_p (L2 := [some (.ref q0), some (.int a1), some (.int a2), some (.int a3), some (.int a4), some (.int a5), some (.int a6), some (.int a7), some (.int x28)]) (S2 := [.int (a6 ||| ((1 : Int32) <<< (a7 &&& 31)))]) (pc2 := 181) op81_180 rfl rfl ?_
          obtain ⟨x30, ex30, gc34⟩ := rq_bv gc34
          refine rx_s (v := x30) (L2 := [some (.ref q0), some (.int a1), some (.int a2), some (.int a3), some (.int a4), some (.int a5), some (.int x30), some (.int a7), some (.int x28)]) (pc2 := 183) op81_181 ex30 rfl rfl ?_
          cases gc34
          exact c34 _
      by_cases b3 : (m.1 (q0 + 1) a7.toNatClampNeg) = 1
      · have gc35 := (if_pos b3).symm.trans gc35
        refine ry_ti (w := 1) (off := 27) (tgt := 52) op81_25 (by rw [b3] <;> decide) (by decide) (by decide) (by decide) (by decide) ?_
        refine rx_p (L2 := [some (.ref q0), some (.int a1), some (.int a2), some (.int a3), some (.int a4), some (.int a5), some (.int a6), some (.int a7), some (.int 0)]) (S2 := [.ref q0]) (pc2 := 53) op81_52 rfl rfl ?_
        refine rx_gf (v := .ref (q0 + 3)) (pc2 := 56) op81_53 (hq0.1) rfl rfl rfl ?_
        refine rx_p (L2 := [some (.ref q0), some (.int a1), some (.int a2), some (.int a3), some (.int a4), some (.int a5), some (.int a6), some (.int a7), some (.int 0)]) (S2 := [.int a7, .ref (q0 + 3)]) (pc2 := 58) op81_56 rfl rfl ?_
        obtain ⟨k6, gc35⟩ := rq_chk gc35
        refine rx_ia (pc2 := 59) op81_58 (rn_shlt (hq0.2.2.2.1)) (hq0.2.2.2.1) k6 rfl rfl ?_
        refine rx_p (L2 := [some (.ref q0), some (.int a1), some (.int a2), some (.int a3), some (.int a4), some (.int a5), some (.int a6), some (.int a7), some (.int 0)]) (S2 := [.int a1, .int (m.1 (q0 + 3) a7.toNatClampNeg)]) (pc2 := 60) op81_59 rfl rfl ?_
        obtain ⟨x11, gc12, gc35⟩ := rq_bind gc35
        try dsimp only at gc35
        have c12 : ∀ (o10 : Option Value), rn_R xs d 81 79 [some (.ref q0), some (.int a1), some (.int a2), some (.int a3), some (.int a4), some (.int a5), some (.int a6), some (.int a7), o10] [.int x11] (rn_SH, m) r τ := by
          intro o10
          refine rx_s (L2 := [some (.ref q0), some (.int a1), some (.int a2), some (.int a3), some (.int a4), some (.int a5), some (.int a6), some (.int a7), some (.int x11)]) (pc2 := 81) op81_79 rfl rfl rfl ?_
          refine ry_go (tgt := 169) op81_81 (by decide) (by decide) ?_
          cases gc35
          exact c35 ()
        refine ry_ic_ne (tgt := 78) (pc2 := 63) op81_60 (by decide) (by decide) rfl (fun b7 => ?_) (fun b7 => ?_)
        · have gc12 := (if_pos b7).symm.trans gc12
          refine rx_p (L2 := [some (.ref q0), some (.int a1), some (.int a2), some (.int a3), some (.int a4), some (.int a5), some (.int a6), some (.int a7), some (.int 0)]) (S2 := [.ref q0]) (pc2 := 64) op81_63 rfl rfl ?_
          refine rx_gf (v := .ref (q0 + 2)) (pc2 := 67) op81_64 (hq0.1) rfl rfl rfl ?_
          refine rx_p (L2 := [some (.ref q0), some (.int a1), some (.int a2), some (.int a3), some (.int a4), some (.int a5), some (.int a6), some (.int a7), some (.int 0)]) (S2 := [.int a7, .ref (q0 + 2)]) (pc2 := 69) op81_67 rfl rfl ?_
          obtain ⟨k8, gc12⟩ := rq_chk gc12
          refine rx_ia (pc2 := 70) op81_69 (rn_shlt (hq0.2.2.1)) (hq0.2.2.1) k8 rfl rfl ?_
          refine rx_p (L2 := [some (.ref q0), some (.int a1), some (.int a2), some (.int a3), some (.int a4), some (.int a5), some (.int a6), some (.int a7), some (.int 0)]) (S2 := [.int a2, .int (m.1 (q0 + 2) a7.toNatClampNeg)]) (pc2 := 71) op81_70 rfl rfl ?_
          refine ry_ic_eq (tgt := 78) (pc2 := 74) op81_71 (by decide) (by decide) rfl (fun b9 => ?_) (fun b9 => ?_)
          · have gc12 := (if_pos b9).symm.trans gc12
            refine rx_ic (v := 0) (pc2 := 79) op81_78 (by decide) rfl ?_
            cases gc12
            exact c12 _
          · have gc12 := (if_neg b9).symm.trans gc12
            refine rx_ic (v := 1) (pc2 := 75) op81_74 (by decide) rfl ?_
            refine ry_go (tgt := 79) op81_75 (by decide) (by decide) ?_
            cases gc12
            exact c12 _
        · have gc12 := (if_neg b7).symm.trans gc12
          refine rx_ic (v := 0) (pc2 := 79) op81_78 (by decide) rfl ?_
          cases gc12
          exact c12 _
      have gc35 := (if_neg b3).symm.trans gc35
      by_cases b4 : (m.1 (q0 + 1) a7.toNatClampNeg) = 2
      · have gc35 := (if_pos b4).symm.trans gc35
        refine ry_ti (w := 2) (off := 59) (tgt := 84) op81_25 (by rw [b4] <;> decide) (by decide) (by decide) (by decide) (by decide) ?_
        refine rx_p (L2 := [some (.ref q0), some (.int a1), some (.int a2), some (.int a3), some (.int a4), some (.int a5), some (.int a6), some (.int a7), some (.int 0)]) (S2 := [.int a3]) (pc2 := 85) op81_84 rfl rfl ?_
        refine rx_p (L2 := [some (.ref q0), some (.int a1), some (.int a2), some (.int a3), some (.int a4), some (.int a5), some (.int a6), some (.int a7), some (.int 0)]) (S2 := [.ref q0, .int a3]) (pc2 := 86) op81_85 rfl rfl ?_
        refine rx_gf (v := .ref (q0 + 2)) (pc2 := 89) op81_86 (hq0.1) rfl rfl rfl ?_
        refine rx_p (L2 := [some (.ref q0), some (.int a1), some (.int a2), some (.int a3), some (.int a4), some (.int a5), some (.int a6), some (.int a7), some (.int 0)]) (S2 := [.int a7, .ref (q0 + 2), .int a3]) (pc2 := 91) op81_89 rfl rfl ?_
        obtain ⟨k13, gc35⟩ := rq_chk gc35
        refine rx_ia (pc2 := 92) op81_91 (rn_shlt (hq0.2.2.1)) (hq0.2.2.1) k13 rfl rfl ?_
        refine rx_p (L2 := [some (.ref q0), some (.int a1), some (.int a2), some (.int a3), some (.int a4), some (.int a5), some (.int a6), some (.int a7), some (.int 0)]) (S2 := [.int (a3 >>> ((m.1 (q0 + 2) a7.toNatClampNeg) &&& 31))]) (pc2 := 93) op81_92 rfl rfl ?_
        refine rx_ic (v := 1) (pc2 := 94) op81_93 (by decide) rfl ?_
        refine rx_p (L2 := [some (.ref q0), some (.int a1), some (.int a2), some (.int a3), some (.int a4), some (.int a5), some (.int a6), some (.int a7), some (.int 0)]) (S2 := [.int ((a3 >>> ((m.1 (q0 + 2) a7.toNatClampNeg) &&& 31)) &&& 1)]) (pc2 := 95) op81_94 rfl rfl ?_
        obtain ⟨x18, gc19, gc35⟩ := rq_bind gc35
        try dsimp only at gc35
        have c19 : ∀ (o17 : Option Value), rn_R xs d 81 118 [some (.ref q0), some (.int a1), some (.int a2), some (.int a3), some (.int a4), some (.int a5), some (.int a6), some (.int a7), o17] [.int x18] (rn_SH, m) r τ := by
          intro o17
          refine rx_s (L2 := [some (.ref q0), some (.int a1), some (.int a2), some (.int a3), some (.int a4), some (.int a5), some (.int a6), some (.int a7), some (.int x18)]) (pc2 := 120) op81_118 rfl rfl rfl ?_
          refine ry_go (tgt := 169) op81_120 (by decide) (by decide) ?_
          cases gc35
          exact c35 ()
        refine ry_if_eq (tgt := 117) (pc2 := 98) op81_95 (by decide) (by decide) rfl (fun b14 => ?_) (fun b14 => ?_)
        · have gc19 := (if_pos b14).symm.trans gc19
          refine rx_ic (v := 0) (pc2 := 118) op81_117 (by decide) rfl ?_
          cases gc19
          exact c19 _
        · have gc19 := (if_neg b14).symm.trans gc19
          refine rx_p (L2 := [some (.ref q0), some (.int a1), some (.int a2), some (.int a3), some (.int a4), some (.int a5), some (.int a6), some (.int a7), some (.int 0)]) (S2 := [.int a4]) (pc2 := 100) op81_98 rfl rfl ?_
          refine rx_p (L2 := [some (.ref q0), some (.int a1), some (.int a2), some (.int a3), some (.int a4), some (.int a5), some (.int a6), some (.int a7), some (.int 0)]) (S2 := [.ref q0, .int a4]) (pc2 := 101) op81_100 rfl rfl ?_
          refine rx_gf (v := .ref (q0 + 3)) (pc2 := 104) op81_101 (hq0.1) rfl rfl rfl ?_
          refine rx_p (L2 := [some (.ref q0), some (.int a1), some (.int a2), some (.int a3), some (.int a4), some (.int a5), some (.int a6), some (.int a7), some (.int 0)]) (S2 := [.int a7, .ref (q0 + 3), .int a4]) (pc2 := 106) op81_104 rfl rfl ?_
          obtain ⟨k15, gc19⟩ := rq_chk gc19
          refine rx_ia (pc2 := 107) op81_106 (rn_shlt (hq0.2.2.2.1)) (hq0.2.2.2.1) k15 rfl rfl ?_
          refine rx_p (L2 := [some (.ref q0), some (.int a1), some (.int a2), some (.int a3), some (.int a4), some (.int a5), some (.int a6), some (.int a7), some (.int 0)]) (S2 := [.int (a4 >>> ((m.1 (q0 + 3) a7.toNatClampNeg) &&& 31))]) (pc2 := 108) op81_107 rfl rfl ?_
          refine rx_ic (v := 1) (pc2 := 109) op81_108 (by decide) rfl ?_
          refine rx_p (L2 := [some (.ref q0), some (.int a1), some (.int a2), some (.int a3), some (.int a4), some (.int a5), some (.int a6), some (.int a7), some (.int 0)]) (S2 := [.int ((a4 >>> ((m.1 (q0 + 3) a7.toNatClampNeg) &&& 31)) &&& 1)]) (pc2 := 110) op81_109 rfl rfl ?_
          refine ry_if_ne (tgt := 117) (pc2 := 113) op81_110 (by decide) (by decide) rfl (fun b16 => ?_) (fun b16 => ?_)
          · have gc19 := (if_pos b16).symm.trans gc19
            refine rx_ic (v := 1) (pc2 := 114) op81_113 (by decide) rfl ?_
            refine ry_go (tgt := 118) op81_114 (by decide) (by decide) ?_
            cases gc19
            exact c19 _
          · have gc19 := (if_neg b16).symm.trans gc19
            refine rx_ic (v := 0) (pc2 := 118) op81_117 (by decide) rfl ?_
            cases gc19
            exact c19 _
      have gc35 := (if_neg b4).symm.trans gc35
      by_cases b5 : (m.1 (q0 + 1) a7.toNatClampNeg) = 3
      · have gc35 := (if_pos b5).symm.trans gc35
        refine ry_ti (w := 3) (off := 98) (tgt := 123) op81_25 (by rw [b5] <;> decide) (by decide) (by decide) (by decide) (by decide) ?_
        refine rx_p (L2 := [some (.ref q0), some (.int a1), some (.int a2), some (.int a3), some (.int a4), some (.int a5), some (.int a6), some (.int a7), some (.int 0)]) (S2 := [.ref q0]) (pc2 := 124) op81_123 rfl rfl ?_
        refine rx_gf (v := .ref (q0 + 4)) (pc2 := 127) op81_124 (hq0.1) rfl rfl rfl ?_
        refine rx_p (L2 := [some (.ref q0), some (.int a1), some (.int a2), some (.int a3), some (.int a4), some (.int a5), some (.int a6), some (.int a7), some (.int 0)]) (S2 := [.int a7, .ref (q0 + 4)]) (pc2 := 129) op81_127 rfl rfl ?_
        obtain ⟨k20, gc35⟩ := rq_chk gc35
        refine rx_ia (pc2 := 130) op81_129 (rn_shlt (hq0.2.2.2.2)) (hq0.2.2.2.2) k20 rfl rfl ?_
        refine rx_p (L2 := [some (.ref q0), some (.int a1), some (.int a2), some (.int a3), some (.int a4), some (.int a5), some (.int a6), some (.int a7), some (.int 0)]) (S2 := [.int a1, .int (m.1 (q0 + 4) a7.toNatClampNeg)]) (pc2 := 131) op81_130 rfl rfl ?_
        obtain ⟨x26, gc27, gc35⟩ := rq_bind gc35
        try dsimp only at gc35
        have c27 : ∀ (o25 : Option Value), rn_R xs d 81 164 [some (.ref q0), some (.int a1), some (.int a2), some (.int a3), some (.int a4), some (.int a5), some (.int a6), some (.int a7), o25] [.int x26] (rn_SH, m) r τ := by
          intro o25
          refine rx_s (L2 := [some (.ref q0), some (.int a1), some (.int a2), some (.int a3), some (.int a4), some (.int a5), some (.int a6), some (.int a7), some (.int x26)]) (pc2 := 166) op81_164 rfl rfl rfl ?_
          refine ry_go (tgt := 169) op81_166 (by decide) (by decide) ?_
          cases gc35
          exact c35 ()
        refine ry_ic_ne (tgt := 163) (pc2 := 134) op81_131 (by decide) (by decide) rfl (fun b21 => ?_) (fun b21 => ?_)
        · have gc27 := (if_pos b21).symm.trans gc27
          refine rx_p (L2 := [some (.ref q0), some (.int a1), some (.int a2), some (.int a3), some (.int a4), some (.int a5), some (.int a6), some (.int a7), some (.int 0)]) (S2 := [.int a5]) (pc2 := 136) op81_134 rfl rfl ?_
          refine rx_ic (v := 4) (pc2 := 137) op81_136 (by decide) rfl ?_
          refine rx_p (L2 := [some (.ref q0), some (.int a1), some (.int a2), some (.int a3), some (.int a4), some (.int a5), some (.int a6), some (.int a7), some (.int 0)]) (S2 := [.ref q0, .int 4, .int a5]) (pc2 := 138) op81_137 rfl rfl ?_
          refine rx_gf (v := .ref (q0 + 2)) (pc2 := 141) op81_138 (hq0.1) rfl rfl rfl ?_
          refine rx_p (L2 := [some (.ref q0), some (.int a1), some (.int a2), some (.int a3), some (.int a4), some (.int a5), some (.int a6), some (.int a7), some (.int 0)]) (S2 := [.int a7, .ref (q0 + 2), .int 4, .int a5]) (pc2 := 143) op81_141 rfl rfl ?_
          obtain ⟨k22, gc27⟩ := rq_chk gc27
          refine rx_ia (pc2 := 144) op81_143 (rn_shlt (hq0.2.2.1)) (hq0.2.2.1) k22 rfl rfl ?_
          refine rx_p (L2 := [some (.ref q0), some (.int a1), some (.int a2), some (.int a3), some (.int a4), some (.int a5), some (.int a6), some (.int a7), some (.int 0)]) (S2 := [.int ((4 : Int32) * (m.1 (q0 + 2) a7.toNatClampNeg)), .int a5]) (pc2 := 145) op81_144 rfl rfl ?_
          refine rx_p (L2 := [some (.ref q0), some (.int a1), some (.int a2), some (.int a3), some (.int a4), some (.int a5), some (.int a6), some (.int a7), some (.int 0)]) (S2 := [.ref q0, .int ((4 : Int32) * (m.1 (q0 + 2) a7.toNatClampNeg)), .int a5]) (pc2 := 146) op81_145 rfl rfl ?_
          refine rx_gf (v := .ref (q0 + 3)) (pc2 := 149) op81_146 (hq0.1) rfl rfl rfl ?_
          refine rx_p (L2 := [some (.ref q0), some (.int a1), some (.int a2), some (.int a3), some (.int a4), some (.int a5), some (.int a6), some (.int a7), some (.int 0)]) (S2 := [.int a7, .ref (q0 + 3), .int ((4 : Int32) * (m.1 (q0 + 2) a7.toNatClampNeg)), .int a5]) (pc2 := 151) op81_149 rfl rfl ?_
          obtain ⟨k23, gc27⟩ := rq_chk gc27
          refine rx_ia (pc2 := 152) op81_151 (rn_shlt (hq0.2.2.2.1)) (hq0.2.2.2.1) k23 rfl rfl ?_
          refine rx_p (L2 := [some (.ref q0), some (.int a1), some (.int a2), some (.int a3), some (.int a4), some (.int a5), some (.int a6), some (.int a7), some (.int 0)]) (S2 := [.int (((4 : Int32) * (m.1 (q0 + 2) a7.toNatClampNeg)) + (m.1 (q0 + 3) a7.toNatClampNeg)), .int a5]) (pc2 := 153) op81_152 rfl rfl ?_
          refine rx_p (L2 := [some (.ref q0), some (.int a1), some (.int a2), some (.int a3), some (.int a4), some (.int a5), some (.int a6), some (.int a7), some (.int 0)]) (S2 := [.int (a5 >>> ((((4 : Int32) * (m.1 (q0 + 2) a7.toNatClampNeg)) + (m.1 (q0 + 3) a7.toNatClampNeg)) &&& 31))]) (pc2 := 154) op81_153 rfl rfl ?_
          refine rx_ic (v := 1) (pc2 := 155) op81_154 (by decide) rfl ?_
          refine rx_p (L2 := [some (.ref q0), some (.int a1), some (.int a2), some (.int a3), some (.int a4), some (.int a5), some (.int a6), some (.int a7), some (.int 0)]) (S2 := [.int ((a5 >>> ((((4 : Int32) * (m.1 (q0 + 2) a7.toNatClampNeg)) + (m.1 (q0 + 3) a7.toNatClampNeg)) &&& 31)) &&& 1)]) (pc2 := 156) op81_155 rfl rfl ?_
          refine ry_if_eq (tgt := 163) (pc2 := 159) op81_156 (by decide) (by decide) rfl (fun b24 => ?_) (fun b24 => ?_)
          · have gc27 := (if_pos b24).symm.trans gc27
            refine rx_ic (v := 0) (pc2 := 164) op81_163 (by decide) rfl ?_
            cases gc27
            exact c27 _
          · have gc27 := (if_neg b24).symm.trans gc27
            refine rx_ic (v := 1) (pc2 := 160) op81_159 (by decide) rfl ?_
            refine ry_go (tgt := 164) op81_160 (by decide) (by decide) ?_
            cases gc27
            exact c27 _
        · have gc27 := (if_neg b21).symm.trans gc27
          refine rx_ic (v := 0) (pc2 := 164) op81_163 (by decide) rfl ?_
          cases gc27
          exact c27 _
      have gc35 := (if_neg b5).symm.trans gc35
      have tb3 := rq_nt 1 (by decide) b3
      have tb4 := rq_nt 2 (by decide) b4
      have tb5 := rq_nt 3 (by decide) b5
      refine ry_to (tgt := 169) op81_25 (by omega) (by decide) (by decide) ?_
      cases gc35
      exact c35 ()
    · have h := (if_neg b1).symm.trans h
      cases h
      exact hr _ _ rfl _ _ _ _ _ _ _ _
set_option maxHeartbeats 4000000 in
set_option maxRecDepth 20000 in
theorem cl_againstTrick_ok (xs : List Int32) {d : Nat} (hd : 0 ≤ d) {n : Nat} {q0 : Nat} {a1 : Int32} {a2 : Int32} {a3 : Int32} {a4 : Int32} {a5 : Int32} {m mO : rn_Mem} {rO : Int32} (hq0 : sA_Clues q0) (h : cl_againstTrick n q0 a1 a2 a3 a4 a5 m = some (rO, mO)) : rn_R xs d 81 0 (rn_ent 9 [.ref q0, .int a1, .int a2, .int a3, .int a4, .int a5]) [] (rn_SH, m) (some (.int rO)) (rn_SH, mO) := by
  unfold cl_againstTrick at h
  show rn_R xs d 81 0 [some (.ref q0), some (.int a1), some (.int a2), some (.int a3), some (.int a4), some (.int a5), none, none, none] [] (rn_SH, m) (some (.int rO)) (rn_SH, mO)
  refine rx_ic (v := 0) (pc2 := 1) op81_0 (by decide) rfl ?_
  refine rx_s (L2 := [some (.ref q0), some (.int a1), some (.int a2), some (.int a3), some (.int a4), some (.int a5), some (.int 0), none, none]) (pc2 := 3) op81_1 rfl rfl rfl ?_
  refine rx_ic (v := 0) (pc2 := 4) op81_3 (by decide) rfl ?_
  refine rx_s (L2 := [some (.ref q0), some (.int a1), some (.int a2), some (.int a3), some (.int a4), some (.int a5), some (.int 0), some (.int 0), none]) (pc2 := 6) op81_4 rfl rfl rfl ?_
  obtain ⟨wf46, f46, h⟩ := rq_bind h
  refine cl_againstTrick_l6_ok xs (fun x43 m36 eq => ?_) _ _ _ _ _ hq0 f46
  subst eq
  try dsimp only at h
  intro o37 o38 o39 o40 o41 o42 o44 o45
  refine rx_p (L2 := [o37, o38, o39, o40, o41, o42, some (.int x43), o44, o45]) (S2 := [.int x43]) (pc2 := 191) op81_189 rfl rfl ?_
  obtain ⟨rfl, rfl⟩ := rq_ret h
  exact ry_ri op81_191 ms_81 rfl
/-! se_rankOf -/
theorem op82_0 : rn_op 82 0 = some (.bipush 64, 2, 0, 0, 0) := by decide +kernel
theorem op82_2 : rn_op 82 2 = some (.iload_n 0, 1, 0, 0, 0) := by decide +kernel
theorem op82_3 : rn_op 82 3 = some (.invokestatic 215, 3, 80, 1, 0) := by decide +kernel
theorem op82_6 : rn_op 82 6 = some (.imul, 1, 0, 0, 0) := by decide +kernel
theorem op82_7 : rn_op 82 7 = some (.iload_n 0, 1, 0, 0, 0) := by decide +kernel
theorem op82_8 : rn_op 82 8 = some (.iadd, 1, 0, 0, 0) := by decide +kernel
theorem op82_9 : rn_op 82 9 = some (.ireturn, 1, 0, 0, 0) := by decide +kernel
def se_rankOf (n : Nat) (a0 : Int32) (m : rn_Mem) : Option (Int32 × rn_Mem) :=
  (ja_bitCount n a0 m).bind fun (r2, m1) =>
  some (((64 : Int32) * r2) + a0, m1)
set_option maxHeartbeats 4000000 in
set_option maxRecDepth 20000 in
theorem se_rankOf_ok (xs : List Int32) {d : Nat} (hd : 1 ≤ d) {n : Nat} {a0 : Int32} {m mO : rn_Mem} {rO : Int32} (h : se_rankOf n a0 m = some (rO, mO)) : rn_R xs d 82 0 (rn_ent 1 [.int a0]) [] (rn_SH, m) (some (.int rO)) (rn_SH, mO) := by
  obtain ⟨d, rfl⟩ : ∃ e, d = e + 1 := ⟨d - 1, by omega⟩
  unfold se_rankOf at h
  show rn_R xs (d + 1) 82 0 [some (.int a0)] [] (rn_SH, m) (some (.int rO)) (rn_SH, mO)
  refine rx_bp (v := 64) (pc2 := 2) op82_0 (by decide) rfl ?_
  refine rx_p (L2 := [some (.int a0)]) (S2 := [.int a0, .int 64]) (pc2 := 3) op82_2 rfl rfl ?_
  obtain ⟨⟨r2, m1⟩, f3, h⟩ := rq_bind h
  try dsimp only at h
  refine ry_is (vs := [.int a0]) (T := [.int 64]) (pc2 := 6) op82_3 (by decide) ms_80 (by decide) rfl rfl (Nat.le_of_ble_eq_true rfl) (Nat.le_of_ble_eq_true rfl) (ja_bitCount_ok xs (by omega)  f3) rfl ?_
  show rn_R _ _ _ _ _ [.int r2, .int 64] _ _ _
  refine rx_p (L2 := [some (.int a0)]) (S2 := [.int ((64 : Int32) * r2)]) (pc2 := 7) op82_6 rfl rfl ?_
  refine rx_p (L2 := [some (.int a0)]) (S2 := [.int a0, .int ((64 : Int32) * r2)]) (pc2 := 8) op82_7 rfl rfl ?_
  refine rx_p (L2 := [some (.int a0)]) (S2 := [.int (((64 : Int32) * r2) + a0)]) (pc2 := 9) op82_8 rfl rfl ?_
  obtain ⟨rfl, rfl⟩ := rq_ret h
  exact ry_ri op82_9 ms_82 rfl
/-! se_promises -/
theorem op83_0 : rn_op 83 0 = some (.aload_n 0, 1, 0, 0, 0) := by decide +kernel
theorem op83_1 : rn_op 83 1 = some (.getfield 76, 3, 4, 10, 0) := by decide +kernel
theorem op83_4 : rn_op 83 4 = some (.iconst 1, 1, 0, 0, 0) := by decide +kernel
theorem op83_5 : rn_op 83 5 = some (.if_icmp .ne 17, 3, 0, 0, 0) := by decide +kernel
theorem op83_8 : rn_op 83 8 = some (.iload_n 1, 1, 0, 0, 0) := by decide +kernel
theorem op83_9 : rn_op 83 9 = some (.aload_n 0, 1, 0, 0, 0) := by decide +kernel
theorem op83_10 : rn_op 83 10 = some (.getfield 104, 3, 4, 11, 0) := by decide +kernel
theorem op83_13 : rn_op 83 13 = some (.if_icmp .ge 7, 3, 0, 0, 0) := by decide +kernel
theorem op83_16 : rn_op 83 16 = some (.iconst 1, 1, 0, 0, 0) := by decide +kernel
theorem op83_17 : rn_op 83 17 = some (.goto 4, 3, 0, 0, 0) := by decide +kernel
theorem op83_20 : rn_op 83 20 = some (.iconst 0, 1, 0, 0, 0) := by decide +kernel
theorem op83_21 : rn_op 83 21 = some (.ireturn, 1, 0, 0, 0) := by decide +kernel
theorem op83_22 : rn_op 83 22 = some (.iload_n 3, 1, 0, 0, 0) := by decide +kernel
theorem op83_23 : rn_op 83 23 = some (.ifCond .eq 5, 3, 0, 0, 0) := by decide +kernel
theorem op83_26 : rn_op 83 26 = some (.iconst 0, 1, 0, 0, 0) := by decide +kernel
theorem op83_27 : rn_op 83 27 = some (.ireturn, 1, 0, 0, 0) := by decide +kernel
theorem op83_28 : rn_op 83 28 = some (.aload_n 0, 1, 0, 0, 0) := by decide +kernel
theorem op83_29 : rn_op 83 29 = some (.getfield 76, 3, 4, 10, 0) := by decide +kernel
theorem op83_32 : rn_op 83 32 = some (.ifCond .eq 13, 3, 0, 0, 0) := by decide +kernel
theorem op83_35 : rn_op 83 35 = some (.iload_n 1, 1, 0, 0, 0) := by decide +kernel
theorem op83_36 : rn_op 83 36 = some (.aload_n 0, 1, 0, 0, 0) := by decide +kernel
theorem op83_37 : rn_op 83 37 = some (.getfield 57, 3, 4, 19, 3) := by decide +kernel
theorem op83_40 : rn_op 83 40 = some (.iconst 0, 1, 0, 0, 0) := by decide +kernel
theorem op83_41 : rn_op 83 41 = some (.iaload, 1, 0, 0, 0) := by decide +kernel
theorem op83_42 : rn_op 83 42 = some (.if_icmp .ge 5, 3, 0, 0, 0) := by decide +kernel
theorem op83_45 : rn_op 83 45 = some (.iconst 1, 1, 0, 0, 0) := by decide +kernel
theorem op83_46 : rn_op 83 46 = some (.ireturn, 1, 0, 0, 0) := by decide +kernel
theorem op83_47 : rn_op 83 47 = some (.iconst 0, 1, 0, 0, 0) := by decide +kernel
theorem op83_48 : rn_op 83 48 = some (.istore 4, 2, 0, 0, 0) := by decide +kernel
theorem op83_50 : rn_op 83 50 = some (.iload 4, 2, 0, 0, 0) := by decide +kernel
theorem op83_52 : rn_op 83 52 = some (.aload_n 0, 1, 0, 0, 0) := by decide +kernel
theorem op83_53 : rn_op 83 53 = some (.getfield 12, 3, 4, 0, 3) := by decide +kernel
theorem op83_56 : rn_op 83 56 = some (.getfield 101, 3, 1, 1, 0) := by decide +kernel
theorem op83_59 : rn_op 83 59 = some (.if_icmp .ge 35, 3, 0, 0, 0) := by decide +kernel
theorem op83_62 : rn_op 83 62 = some (.iload_n 2, 1, 0, 0, 0) := by decide +kernel
theorem op83_63 : rn_op 83 63 = some (.iconst 4, 1, 0, 0, 0) := by decide +kernel
theorem op83_64 : rn_op 83 64 = some (.iload 4, 2, 0, 0, 0) := by decide +kernel
theorem op83_66 : rn_op 83 66 = some (.imul, 1, 0, 0, 0) := by decide +kernel
theorem op83_67 : rn_op 83 67 = some (.ishr, 1, 0, 0, 0) := by decide +kernel
theorem op83_68 : rn_op 83 68 = some (.iconst 1, 1, 0, 0, 0) := by decide +kernel
theorem op83_69 : rn_op 83 69 = some (.iand, 1, 0, 0, 0) := by decide +kernel
theorem op83_70 : rn_op 83 70 = some (.ifCond .ne 18, 3, 0, 0, 0) := by decide +kernel
theorem op83_73 : rn_op 83 73 = some (.iload_n 1, 1, 0, 0, 0) := by decide +kernel
theorem op83_74 : rn_op 83 74 = some (.aload_n 0, 1, 0, 0, 0) := by decide +kernel
theorem op83_75 : rn_op 83 75 = some (.getfield 57, 3, 4, 19, 3) := by decide +kernel
theorem op83_78 : rn_op 83 78 = some (.iload 4, 2, 0, 0, 0) := by decide +kernel
theorem op83_80 : rn_op 83 80 = some (.iconst 1, 1, 0, 0, 0) := by decide +kernel
theorem op83_81 : rn_op 83 81 = some (.iadd, 1, 0, 0, 0) := by decide +kernel
theorem op83_82 : rn_op 83 82 = some (.iaload, 1, 0, 0, 0) := by decide +kernel
theorem op83_83 : rn_op 83 83 = some (.if_icmp .ge 5, 3, 0, 0, 0) := by decide +kernel
theorem op83_86 : rn_op 83 86 = some (.iconst 1, 1, 0, 0, 0) := by decide +kernel
theorem op83_87 : rn_op 83 87 = some (.ireturn, 1, 0, 0, 0) := by decide +kernel
theorem op83_88 : rn_op 83 88 = some (.iinc 4 1, 3, 0, 0, 0) := by decide +kernel
theorem op83_91 : rn_op 83 91 = some (.goto (-41), 3, 0, 0, 0) := by decide +kernel
theorem op83_94 : rn_op 83 94 = some (.iconst 0, 1, 0, 0, 0) := by decide +kernel
theorem op83_95 : rn_op 83 95 = some (.ireturn, 1, 0, 0, 0) := by decide +kernel
def se_promises_l50 (a1 : Int32) (a2 : Int32) : Nat → Int32 → rn_Mem → Option ((Int32 × rn_Mem) ⊕ (rn_Mem))
  | 0, _, _ => none
  | n + 1, a4, m =>
    if a4 < (m.1 52 1) then
      if ((a2 >>> (((4 : Int32) * a4) &&& 31)) &&& 1) = 0 then
        if rn_in (a4 + 1) 5 = true then
          if a1 < (m.1 69 (a4 + 1).toNatClampNeg) then
            some (.inl (1, m))
          else
            (some (a4 + 1)).bind fun (x12 : Int32) =>
            se_promises_l50 a1 a2 n x12 m
        else none
      else
        (some (a4 + 1)).bind fun (x14 : Int32) =>
        se_promises_l50 a1 a2 n x14 m
    else
      some (.inr m)
def se_promises (n : Nat) (a1 : Int32) (a2 : Int32) (a3 : Int32) (m : rn_Mem) : Option (Int32 × rn_Mem) :=
  if (m.1 51 10) = 1 then
    if a1 < (m.1 51 11) then
      some (1, m)
    else
      some (0, m)
  else
    if a3 = 0 then
      if (m.1 51 10) = 0 then
        some (1, m)
      else
        if a1 < (m.1 69 0) then
          some (1, m)
        else
          (se_promises_l50 a1 a2 n 0 m).bind fun q => match q with
          | .inl o => some o
          | .inr m16 =>
          some (0, m16)
    else
      some (0, m)
set_option maxHeartbeats 4000000 in
set_option maxRecDepth 20000 in
theorem se_promises_l50_ok (xs : List Int32) {d : Nat} {a1 : Int32} {a2 : Int32} {r : Option Value} {τ : rn_H} {out : (Int32 × rn_Mem) ⊕ (rn_Mem)} (hl : ∀ (rO : Int32) (mO : rn_Mem), out = .inl (rO, mO) → r = (some (.int rO)) ∧ τ = (rn_SH, mO)) (hr : ∀ (mO : rn_Mem), out = .inr mO → ∀ (o0 o1 o2 o3 o4 : Option Value), rn_R xs d 83 94 [o0, o1, o2, o3, o4] [] (rn_SH, mO) r τ) : ∀ (n : Nat) (a4 : Int32) (o3 : Option Value) (m : rn_Mem), se_promises_l50 a1 a2 n a4 m = some out → rn_R xs d 83 50 [some (.ref 51), some (.int a1), some (.int a2), o3, some (.int a4)] [] (rn_SH, m) r τ := by
  intro n
  induction n with
  | zero =>
    intro _ _ _ h
    cases h
  | succ n ih =>
    intro a4 o3 m h
    unfold se_promises_l50 at h
    try dsimp only at h
    refine rx_p (L2 := [some (.ref 51), some (.int a1), some (.int a2), o3, some (.int a4)]) (S2 := [.int a4]) (pc2 := 52) op83_50 rfl rfl ?_
    refine rx_p (L2 := [some (.ref 51), some (.int a1), some (.int a2), o3, some (.int a4)]) (S2 := [.ref 51, .int a4]) (pc2 := 53) op83_52 rfl rfl ?_
    refine rx_gf (v := .ref 52) (pc2 := 56) op83_53 sp_51 rfl rfl rfl ?_
    refine rx_gf (v := .int (m.1 52 1)) (pc2 := 59) op83_56 sp_52 rfl rfl rfl ?_
    refine ry_ic_ge (tgt := 94) (pc2 := 62) op83_59 (by decide) (by decide) rfl (fun b6 => ?_) (fun b6 => ?_)
    · have h := (if_pos b6).symm.trans h
      refine rx_p (L2 := [some (.ref 51), some (.int a1), some (.int a2), o3, some (.int a4)]) (S2 := [.int a2]) (pc2 := 63) op83_62 rfl rfl ?_
      refine rx_ic (v := 4) (pc2 := 64) op83_63 (by decide) rfl ?_
      refine rx_p (L2 := [some (.ref 51), some (.int a1), some (.int a2), o3, some (.int a4)]) (S2 := [.int a4, .int 4, .int a2]) (pc2 := 66) op83_64 rfl rfl ?_
      refine rx_p (L2 := [some (.ref 51), some (.int a1), some (.int a2), o3, some (.int a4)]) (S2 := [.int ((4 : Int32) * a4), .int a2]) (pc2 := 67) op83_66 rfl rfl ?_
      refine rx_p (L2 := [some (.ref 51), some (.int a1), some (.int a2), o3, some (.int a4)]) (S2 := [.int (a2 >>> (((4 : Int32) * a4) &&& 31))]) (pc2 := 68) op83_67 rfl rfl ?_
      refine rx_ic (v := 1) (pc2 := 69) op83_68 (by decide) rfl ?_
      refine rx_p (L2 := [some (.ref 51), some (.int a1), some (.int a2), o3, some (.int a4)]) (S2 := [.int ((a2 >>> (((4 : Int32) * a4) &&& 31)) &&& 1)]) (pc2 := 70) op83_69 rfl rfl ?_
      refine ry_if_ne (tgt := 88) (pc2 := 73) op83_70 (by decide) (by decide) rfl (fun b7 => ?_) (fun b7 => ?_)
      · have h := (if_pos b7).symm.trans h
        refine rx_p (L2 := [some (.ref 51), some (.int a1), some (.int a2), o3, some (.int a4)]) (S2 := [.int a1]) (pc2 := 74) op83_73 rfl rfl ?_
        refine rx_p (L2 := [some (.ref 51), some (.int a1), some (.int a2), o3, some (.int a4)]) (S2 := [.ref 51, .int a1]) (pc2 := 75) op83_74 rfl rfl ?_
        refine rx_gf (v := .ref 69) (pc2 := 78) op83_75 sp_51 rfl rfl rfl ?_
        refine rx_p (L2 := [some (.ref 51), some (.int a1), some (.int a2), o3, some (.int a4)]) (S2 := [.int a4, .ref 69, .int a1]) (pc2 := 80) op83_78 rfl rfl ?_
        refine rx_ic (v := 1) (pc2 := 81) op83_80 (by decide) rfl ?_
        refine rx_p (L2 := [some (.ref 51), some (.int a1), some (.int a2), o3, some (.int a4)]) (S2 := [.int (a4 + 1), .ref 69, .int a1]) (pc2 := 82) op83_81 rfl rfl ?_
        obtain ⟨k10, h⟩ := rq_chk h
        refine rx_ia (pc2 := 83) op83_82 (rn_shlt sp_69) sp_69 k10 rfl rfl ?_
        refine ry_ic_ge (tgt := 88) (pc2 := 86) op83_83 (by decide) (by decide) rfl (fun b11 => ?_) (fun b11 => ?_)
        · have h := (if_pos b11).symm.trans h
          refine rx_ic (v := 1) (pc2 := 87) op83_86 (by decide) rfl ?_
          cases h
          obtain ⟨rfl, rfl⟩ := hl _ _ rfl
          exact ry_rz (x := 1) op83_87 ms_83 rfl (by decide)
        · have h := (if_neg b11).symm.trans h
          obtain ⟨x12, ex12, h⟩ := rq_bv h
          refine rx_incd (w := 1) (v := x12) (j := 3) (pc2 := 91) op83_88 rfl (by decide) ex12 rfl (fun o13 => ?_)
          show rn_R _ _ _ _ [some (.ref 51), some (.int a1), some (.int a2), o13, some (.int x12)] _ _ _ _
          refine ry_go (tgt := 50) op83_91 (by decide) (by decide) ?_
          exact ih _ _ _ h
      · have h := (if_neg b7).symm.trans h
        obtain ⟨x14, ex14, h⟩ := rq_bv h
        refine rx_incd (w := 1) (v := x14) (j := 3) (pc2 := 91) op83_88 rfl (by decide) ex14 rfl (fun o15 => ?_)
        show rn_R _ _ _ _ [some (.ref 51), some (.int a1), some (.int a2), o15, some (.int x14)] _ _ _ _
        refine ry_go (tgt := 50) op83_91 (by decide) (by decide) ?_
        exact ih _ _ _ h
    · have h := (if_neg b6).symm.trans h
      cases h
      exact hr _ rfl _ _ _ _ _
set_option maxHeartbeats 4000000 in
set_option maxRecDepth 20000 in
theorem se_promises_ok (xs : List Int32) {d : Nat} (hd : 0 ≤ d) {n : Nat} {a1 : Int32} {a2 : Int32} {a3 : Int32} {m mO : rn_Mem} {rO : Int32} (h : se_promises n a1 a2 a3 m = some (rO, mO)) : rn_R xs d 83 0 (rn_ent 5 [.ref 51, .int a1, .int a2, .int a3]) [] (rn_SH, m) (some (.int rO)) (rn_SH, mO) := by
  unfold se_promises at h
  show rn_R xs d 83 0 [some (.ref 51), some (.int a1), some (.int a2), some (.int a3), none] [] (rn_SH, m) (some (.int rO)) (rn_SH, mO)
  refine rx_p (L2 := [some (.ref 51), some (.int a1), some (.int a2), some (.int a3), none]) (S2 := [.ref 51]) (pc2 := 1) op83_0 rfl rfl ?_
  refine rx_gf (v := .int (m.1 51 10)) (pc2 := 4) op83_1 sp_51 rfl rfl rfl ?_
  refine rx_ic (v := 1) (pc2 := 5) op83_4 (by decide) rfl ?_
  refine ry_ic_ne (tgt := 22) (pc2 := 8) op83_5 (by decide) (by decide) rfl (fun b1 => ?_) (fun b1 => ?_)
  · have h := (if_pos b1).symm.trans h
    refine rx_p (L2 := [some (.ref 51), some (.int a1), some (.int a2), some (.int a3), none]) (S2 := [.int a1]) (pc2 := 9) op83_8 rfl rfl ?_
    refine rx_p (L2 := [some (.ref 51), some (.int a1), some (.int a2), some (.int a3), none]) (S2 := [.ref 51, .int a1]) (pc2 := 10) op83_9 rfl rfl ?_
    refine rx_gf (v := .int (m.1 51 11)) (pc2 := 13) op83_10 sp_51 rfl rfl rfl ?_
    refine ry_ic_ge (tgt := 20) (pc2 := 16) op83_13 (by decide) (by decide) rfl (fun b2 => ?_) (fun b2 => ?_)
    · have h := (if_pos b2).symm.trans h
      refine rx_ic (v := 1) (pc2 := 17) op83_16 (by decide) rfl ?_
      refine ry_go (tgt := 21) op83_17 (by decide) (by decide) ?_
      obtain ⟨rfl, rfl⟩ := rq_ret h
      exact ry_rz (x := 1) op83_21 ms_83 rfl (by decide)
    · have h := (if_neg b2).symm.trans h
      refine rx_ic (v := 0) (pc2 := 21) op83_20 (by decide) rfl ?_
      obtain ⟨rfl, rfl⟩ := rq_ret h
      exact ry_rz (x := 0) op83_21 ms_83 rfl (by decide)
  · have h := (if_neg b1).symm.trans h
    refine rx_p (L2 := [some (.ref 51), some (.int a1), some (.int a2), some (.int a3), none]) (S2 := [.int a3]) (pc2 := 23) op83_22 rfl rfl ?_
    refine ry_if_eq (tgt := 28) (pc2 := 26) op83_23 (by decide) (by decide) rfl (fun b3 => ?_) (fun b3 => ?_)
    · have h := (if_pos b3).symm.trans h
      refine rx_p (L2 := [some (.ref 51), some (.int a1), some (.int a2), some (.int a3), none]) (S2 := [.ref 51]) (pc2 := 29) op83_28 rfl rfl ?_
      refine rx_gf (v := .int (m.1 51 10)) (pc2 := 32) op83_29 sp_51 rfl rfl rfl ?_
      refine ry_if_eq (tgt := 45) (pc2 := 35) op83_32 (by decide) (by decide) rfl (fun b4 => ?_) (fun b4 => ?_)
      · have h := (if_pos b4).symm.trans h
        refine rx_ic (v := 1) (pc2 := 46) op83_45 (by decide) rfl ?_
        obtain ⟨rfl, rfl⟩ := rq_ret h
        exact ry_rz (x := 1) op83_46 ms_83 rfl (by decide)
      · have h := (if_neg b4).symm.trans h
        refine rx_p (L2 := [some (.ref 51), some (.int a1), some (.int a2), some (.int a3), none]) (S2 := [.int a1]) (pc2 := 36) op83_35 rfl rfl ?_
        refine rx_p (L2 := [some (.ref 51), some (.int a1), some (.int a2), some (.int a3), none]) (S2 := [.ref 51, .int a1]) (pc2 := 37) op83_36 rfl rfl ?_
        refine rx_gf (v := .ref 69) (pc2 := 40) op83_37 sp_51 rfl rfl rfl ?_
        refine rx_ic (v := 0) (pc2 := 41) op83_40 (by decide) rfl ?_
        refine rx_ia (j := 0) (pc2 := 42) op83_41 (rn_shlt sp_69) sp_69 (by decide) (by decide) rfl ?_
        refine ry_ic_ge (tgt := 47) (pc2 := 45) op83_42 (by decide) (by decide) rfl (fun b5 => ?_) (fun b5 => ?_)
        · have h := (if_pos b5).symm.trans h
          refine rx_ic (v := 1) (pc2 := 46) op83_45 (by decide) rfl ?_
          obtain ⟨rfl, rfl⟩ := rq_ret h
          exact ry_rz (x := 1) op83_46 ms_83 rfl (by decide)
        · have h := (if_neg b5).symm.trans h
          refine rx_ic (v := 0) (pc2 := 48) op83_47 (by decide) rfl ?_
          refine rx_s (L2 := [some (.ref 51), some (.int a1), some (.int a2), some (.int a3), some (.int 0)]) (pc2 := 50) op83_48 rfl rfl rfl ?_
          obtain ⟨wf22, f22, h⟩ := rq_bind h
          refine se_promises_l50_ok xs (fun v0 m0 eq => ?_) (fun m16 eq => ?_) _ _ _ _  f22
          · subst eq
            try dsimp only at h
            cases h
            exact ⟨rfl, rfl⟩
          · subst eq
            try dsimp only at h
            intro o17 o18 o19 o20 o21
            refine rx_ic (v := 0) (pc2 := 95) op83_94 (by decide) rfl ?_
            obtain ⟨rfl, rfl⟩ := rq_ret h
            exact ry_rz (x := 0) op83_95 ms_83 rfl (by decide)
    · have h := (if_neg b3).symm.trans h
      refine rx_ic (v := 0) (pc2 := 27) op83_26 (by decide) rfl ?_
      obtain ⟨rfl, rfl⟩ := rq_ret h
      exact ry_rz (x := 0) op83_27 ms_83 rfl (by decide)
/-! ja_minL -/
theorem op85_0 : rn_op 85 0 = some (.lload_n 0, 1, 0, 0, 0) := by decide +kernel
theorem op85_1 : rn_op 85 1 = some (.lload_n 2, 1, 0, 0, 0) := by decide +kernel
theorem op85_2 : rn_op 85 2 = some (.lcmp, 1, 0, 0, 0) := by decide +kernel
theorem op85_3 : rn_op 85 3 = some (.ifCond .gt 7, 3, 0, 0, 0) := by decide +kernel
theorem op85_6 : rn_op 85 6 = some (.lload_n 0, 1, 0, 0, 0) := by decide +kernel
theorem op85_7 : rn_op 85 7 = some (.goto 4, 3, 0, 0, 0) := by decide +kernel
theorem op85_10 : rn_op 85 10 = some (.lload_n 2, 1, 0, 0, 0) := by decide +kernel
theorem op85_11 : rn_op 85 11 = some (.lreturn, 1, 0, 0, 0) := by decide +kernel
def ja_minL (n : Nat) (a0 : Int64) (a1 : Int64) (m : rn_Mem) : Option (Int64 × rn_Mem) :=
  if 0 < (lg_cmp a0 a1) then
    some (a1, m)
  else
    some (a0, m)
set_option maxHeartbeats 4000000 in
set_option maxRecDepth 20000 in
theorem ja_minL_ok (xs : List Int32) {d : Nat} (hd : 0 ≤ d) {n : Nat} {a0 : Int64} {a1 : Int64} {m mO : rn_Mem} {rO : Int64} (h : ja_minL n a0 a1 m = some (rO, mO)) : rn_R xs d 85 0 (rn_ent 4 [.long a0, .long a1]) [] (rn_SH, m) (some (.long rO)) (rn_SH, mO) := by
  unfold ja_minL at h
  show rn_R xs d 85 0 [some (.long a0), none, some (.long a1), none] [] (rn_SH, m) (some (.long rO)) (rn_SH, mO)
  refine rx_p (L2 := [some (.long a0), none, some (.long a1), none]) (S2 := [.long a0]) (pc2 := 1) op85_0 rfl rfl ?_
  refine rx_p (L2 := [some (.long a0), none, some (.long a1), none]) (S2 := [.long a1, .long a0]) (pc2 := 2) op85_1 rfl rfl ?_
  refine rx_p (L2 := [some (.long a0), none, some (.long a1), none]) (S2 := [.int (lg_cmp a0 a1)]) (pc2 := 3) op85_2 rfl rfl ?_
  refine ry_if_gt (tgt := 10) (pc2 := 6) op85_3 (by decide) (by decide) rfl (fun b1 => ?_) (fun b1 => ?_)
  · have h := (if_pos b1).symm.trans h
    refine rx_p (L2 := [some (.long a0), none, some (.long a1), none]) (S2 := [.long a1]) (pc2 := 11) op85_10 rfl rfl ?_
    obtain ⟨rfl, rfl⟩ := rq_ret h
    exact ry_rl op85_11 ms_85 rfl
  · have h := (if_neg b1).symm.trans h
    refine rx_p (L2 := [some (.long a0), none, some (.long a1), none]) (S2 := [.long a0]) (pc2 := 7) op85_6 rfl rfl ?_
    refine ry_go (tgt := 11) op85_7 (by decide) (by decide) ?_
    obtain ⟨rfl, rfl⟩ := rq_ret h
    exact ry_rl op85_11 ms_85 rfl
/-! se_notePlay -/
theorem op84_0 : rn_op 84 0 = some (.lconst 1, 1, 0, 0, 0) := by decide +kernel
theorem op84_1 : rn_op 84 1 = some (.lstore_n 2, 1, 0, 0, 0) := by decide +kernel
theorem op84_2 : rn_op 84 2 = some (.iload_n 1, 1, 0, 0, 0) := by decide +kernel
theorem op84_3 : rn_op 84 3 = some (.i2l, 1, 0, 0, 0) := by decide +kernel
theorem op84_4 : rn_op 84 4 = some (.lstore 4, 2, 0, 0, 0) := by decide +kernel
theorem op84_6 : rn_op 84 6 = some (.iconst 0, 1, 0, 0, 0) := by decide +kernel
theorem op84_7 : rn_op 84 7 = some (.istore 6, 2, 0, 0, 0) := by decide +kernel
theorem op84_9 : rn_op 84 9 = some (.iload 6, 2, 0, 0, 0) := by decide +kernel
theorem op84_11 : rn_op 84 11 = some (.aload_n 0, 1, 0, 0, 0) := by decide +kernel
theorem op84_12 : rn_op 84 12 = some (.getfield 12, 3, 4, 0, 3) := by decide +kernel
theorem op84_15 : rn_op 84 15 = some (.getfield 129, 3, 1, 2, 0) := by decide +kernel
theorem op84_18 : rn_op 84 18 = some (.if_icmp .ge 136, 3, 0, 0, 0) := by decide +kernel
theorem op84_21 : rn_op 84 21 = some (.aload_n 0, 1, 0, 0, 0) := by decide +kernel
theorem op84_22 : rn_op 84 22 = some (.getfield 34, 3, 4, 3, 3) := by decide +kernel
theorem op84_25 : rn_op 84 25 = some (.aload_n 0, 1, 0, 0, 0) := by decide +kernel
theorem op84_26 : rn_op 84 26 = some (.getfield 51, 3, 4, 8, 3) := by decide +kernel
theorem op84_29 : rn_op 84 29 = some (.iload 6, 2, 0, 0, 0) := by decide +kernel
theorem op84_31 : rn_op 84 31 = some (.iaload, 1, 0, 0, 0) := by decide +kernel
theorem op84_32 : rn_op 84 32 = some (.bipush 24, 2, 0, 0, 0) := by decide +kernel
theorem op84_34 : rn_op 84 34 = some (.idiv, 1, 0, 0, 0) := by decide +kernel
theorem op84_35 : rn_op 84 35 = some (.aaload, 1, 0, 0, 0) := by decide +kernel
theorem op84_36 : rn_op 84 36 = some (.astore 7, 2, 0, 0, 0) := by decide +kernel
theorem op84_38 : rn_op 84 38 = some (.aload_n 0, 1, 0, 0, 0) := by decide +kernel
theorem op84_39 : rn_op 84 39 = some (.getfield 51, 3, 4, 8, 3) := by decide +kernel
theorem op84_42 : rn_op 84 42 = some (.iload 6, 2, 0, 0, 0) := by decide +kernel
theorem op84_44 : rn_op 84 44 = some (.iaload, 1, 0, 0, 0) := by decide +kernel
theorem op84_45 : rn_op 84 45 = some (.bipush 24, 2, 0, 0, 0) := by decide +kernel
theorem op84_47 : rn_op 84 47 = some (.irem, 1, 0, 0, 0) := by decide +kernel
theorem op84_48 : rn_op 84 48 = some (.istore 8, 2, 0, 0, 0) := by decide +kernel
theorem op84_50 : rn_op 84 50 = some (.lload_n 2, 1, 0, 0, 0) := by decide +kernel
theorem op84_51 : rn_op 84 51 = some (.aload 7, 2, 0, 0, 0) := by decide +kernel
theorem op84_53 : rn_op 84 53 = some (.getfield 251, 3, 9, 7, 3) := by decide +kernel
theorem op84_56 : rn_op 84 56 = some (.iload 8, 2, 0, 0, 0) := by decide +kernel
theorem op84_58 : rn_op 84 58 = some (.iaload, 1, 0, 0, 0) := by decide +kernel
theorem op84_59 : rn_op 84 59 = some (.i2l, 1, 0, 0, 0) := by decide +kernel
theorem op84_60 : rn_op 84 60 = some (.lmul, 1, 0, 0, 0) := by decide +kernel
theorem op84_61 : rn_op 84 61 = some (.lstore_n 2, 1, 0, 0, 0) := by decide +kernel
theorem op84_62 : rn_op 84 62 = some (.lload 4, 2, 0, 0, 0) := by decide +kernel
theorem op84_64 : rn_op 84 64 = some (.iconst 4, 1, 0, 0, 0) := by decide +kernel
theorem op84_65 : rn_op 84 65 = some (.aload_n 0, 1, 0, 0, 0) := by decide +kernel
theorem op84_66 : rn_op 84 66 = some (.getfield 12, 3, 4, 0, 3) := by decide +kernel
theorem op84_69 : rn_op 84 69 = some (.getfield 101, 3, 1, 1, 0) := by decide +kernel
theorem op84_72 : rn_op 84 72 = some (.imul, 1, 0, 0, 0) := by decide +kernel
theorem op84_73 : rn_op 84 73 = some (.lshl, 1, 0, 0, 0) := by decide +kernel
theorem op84_74 : rn_op 84 74 = some (.aload 7, 2, 0, 0, 0) := by decide +kernel
theorem op84_76 : rn_op 84 76 = some (.getfield 254, 3, 9, 9, 3) := by decide +kernel
theorem op84_79 : rn_op 84 79 = some (.iload 8, 2, 0, 0, 0) := by decide +kernel
theorem op84_81 : rn_op 84 81 = some (.iaload, 1, 0, 0, 0) := by decide +kernel
theorem op84_82 : rn_op 84 82 = some (.i2l, 1, 0, 0, 0) := by decide +kernel
theorem op84_83 : rn_op 84 83 = some (.lor, 1, 0, 0, 0) := by decide +kernel
theorem op84_84 : rn_op 84 84 = some (.lstore 4, 2, 0, 0, 0) := by decide +kernel
theorem op84_86 : rn_op 84 86 = some (.aload_n 0, 1, 0, 0, 0) := by decide +kernel
theorem op84_87 : rn_op 84 87 = some (.dup, 1, 0, 0, 0) := by decide +kernel
theorem op84_88 : rn_op 84 88 = some (.getfield 89, 3, 4, 14, 1) := by decide +kernel
theorem op84_91 : rn_op 84 91 = some (.aload 7, 2, 0, 0, 0) := by decide +kernel
theorem op84_93 : rn_op 84 93 = some (.getfield 257, 3, 9, 8, 3) := by decide +kernel
theorem op84_96 : rn_op 84 96 = some (.iload 8, 2, 0, 0, 0) := by decide +kernel
theorem op84_98 : rn_op 84 98 = some (.laload, 1, 0, 0, 0) := by decide +kernel
theorem op84_99 : rn_op 84 99 = some (.lor, 1, 0, 0, 0) := by decide +kernel
theorem op84_100 : rn_op 84 100 = some (.putfield 89, 3, 4, 14, 1) := by decide +kernel
theorem op84_103 : rn_op 84 103 = some (.aload_n 0, 1, 0, 0, 0) := by decide +kernel
theorem op84_104 : rn_op 84 104 = some (.dup, 1, 0, 0, 0) := by decide +kernel
theorem op84_105 : rn_op 84 105 = some (.getfield 92, 3, 4, 15, 0) := by decide +kernel
theorem op84_108 : rn_op 84 108 = some (.iconst 1, 1, 0, 0, 0) := by decide +kernel
theorem op84_109 : rn_op 84 109 = some (.iconst 4, 1, 0, 0, 0) := by decide +kernel
theorem op84_110 : rn_op 84 110 = some (.iload 6, 2, 0, 0, 0) := by decide +kernel
theorem op84_112 : rn_op 84 112 = some (.imul, 1, 0, 0, 0) := by decide +kernel
theorem op84_113 : rn_op 84 113 = some (.aload 7, 2, 0, 0, 0) := by decide +kernel
theorem op84_115 : rn_op 84 115 = some (.getfield 202, 3, 9, 3, 3) := by decide +kernel
theorem op84_118 : rn_op 84 118 = some (.iload 8, 2, 0, 0, 0) := by decide +kernel
theorem op84_120 : rn_op 84 120 = some (.iaload, 1, 0, 0, 0) := by decide +kernel
theorem op84_121 : rn_op 84 121 = some (.iadd, 1, 0, 0, 0) := by decide +kernel
theorem op84_122 : rn_op 84 122 = some (.ishl, 1, 0, 0, 0) := by decide +kernel
theorem op84_123 : rn_op 84 123 = some (.ior, 1, 0, 0, 0) := by decide +kernel
theorem op84_124 : rn_op 84 124 = some (.putfield 92, 3, 4, 15, 0) := by decide +kernel
theorem op84_127 : rn_op 84 127 = some (.aload_n 0, 1, 0, 0, 0) := by decide +kernel
theorem op84_128 : rn_op 84 128 = some (.dup, 1, 0, 0, 0) := by decide +kernel
theorem op84_129 : rn_op 84 129 = some (.getfield 95, 3, 4, 16, 0) := by decide +kernel
theorem op84_132 : rn_op 84 132 = some (.iconst 1, 1, 0, 0, 0) := by decide +kernel
theorem op84_133 : rn_op 84 133 = some (.iconst 4, 1, 0, 0, 0) := by decide +kernel
theorem op84_134 : rn_op 84 134 = some (.iload 6, 2, 0, 0, 0) := by decide +kernel
theorem op84_136 : rn_op 84 136 = some (.imul, 1, 0, 0, 0) := by decide +kernel
theorem op84_137 : rn_op 84 137 = some (.aload 7, 2, 0, 0, 0) := by decide +kernel
theorem op84_139 : rn_op 84 139 = some (.getfield 261, 3, 9, 0, 0) := by decide +kernel
theorem op84_142 : rn_op 84 142 = some (.iadd, 1, 0, 0, 0) := by decide +kernel
theorem op84_143 : rn_op 84 143 = some (.ishl, 1, 0, 0, 0) := by decide +kernel
theorem op84_144 : rn_op 84 144 = some (.ior, 1, 0, 0, 0) := by decide +kernel
theorem op84_145 : rn_op 84 145 = some (.putfield 95, 3, 4, 16, 0) := by decide +kernel
theorem op84_148 : rn_op 84 148 = some (.iinc 6 1, 3, 0, 0, 0) := by decide +kernel
theorem op84_151 : rn_op 84 151 = some (.goto (-142), 3, 0, 0, 0) := by decide +kernel
theorem op84_154 : rn_op 84 154 = some (.aload_n 0, 1, 0, 0, 0) := by decide +kernel
theorem op84_155 : rn_op 84 155 = some (.aload_n 0, 1, 0, 0, 0) := by decide +kernel
theorem op84_156 : rn_op 84 156 = some (.getfield 80, 3, 4, 12, 1) := by decide +kernel
theorem op84_159 : rn_op 84 159 = some (.lconst 0, 1, 0, 0, 0) := by decide +kernel
theorem op84_160 : rn_op 84 160 = some (.lcmp, 1, 0, 0, 0) := by decide +kernel
theorem op84_161 : rn_op 84 161 = some (.ifCond .ne 8, 3, 0, 0, 0) := by decide +kernel
theorem op84_164 : rn_op 84 164 = some (.lload 4, 2, 0, 0, 0) := by decide +kernel
theorem op84_166 : rn_op 84 166 = some (.goto 12, 3, 0, 0, 0) := by decide +kernel
theorem op84_169 : rn_op 84 169 = some (.aload_n 0, 1, 0, 0, 0) := by decide +kernel
theorem op84_170 : rn_op 84 170 = some (.getfield 86, 3, 4, 13, 1) := by decide +kernel
theorem op84_173 : rn_op 84 173 = some (.lload 4, 2, 0, 0, 0) := by decide +kernel
theorem op84_175 : rn_op 84 175 = some (.invokestatic 264, 3, 85, 2, 0) := by decide +kernel
theorem op84_178 : rn_op 84 178 = some (.putfield 86, 3, 4, 13, 1) := by decide +kernel
theorem op84_181 : rn_op 84 181 = some (.aload_n 0, 1, 0, 0, 0) := by decide +kernel
theorem op84_182 : rn_op 84 182 = some (.dup, 1, 0, 0, 0) := by decide +kernel
theorem op84_183 : rn_op 84 183 = some (.getfield 80, 3, 4, 12, 1) := by decide +kernel
theorem op84_186 : rn_op 84 186 = some (.lload_n 2, 1, 0, 0, 0) := by decide +kernel
theorem op84_187 : rn_op 84 187 = some (.ladd, 1, 0, 0, 0) := by decide +kernel
theorem op84_188 : rn_op 84 188 = some (.putfield 80, 3, 4, 12, 1) := by decide +kernel
theorem op84_191 : rn_op 84 191 = some (.return_, 1, 0, 0, 0) := by decide +kernel
def se_notePlay_l9  : Nat → Int64 → Int64 → Int32 → rn_Mem → Option (Int64 × Int64 × rn_Mem)
  | 0, _, _, _, _ => none
  | n + 1, a2, a4, a6, m =>
    if a6 < (m.1 52 2) then
      if rn_in a6 4 = true then
        if rn_in ((m.1 67 a6.toNatClampNeg) / 24) 4 = true then
          if rn_in a6 4 = true then
            (some (rn_rem (m.1 67 a6.toNatClampNeg) 24)).bind fun (x6 : Int32) =>
            if rn_in x6 24 = true then
              (some (a2 * ((m.1 ((70 + 8 * ((m.1 67 a6.toNatClampNeg) / 24).toNatClampNeg) + 5) x6.toNatClampNeg).toInt64))).bind fun (x9 : Int64) =>
              if rn_in x6 24 = true then
                (some ((a4 <<< (((4 : Int32) * (m.1 52 1)).toInt64 &&& 63)) ||| ((m.1 ((70 + 8 * ((m.1 67 a6.toNatClampNeg) / 24).toNatClampNeg) + 7) x6.toNatClampNeg).toInt64))).bind fun (x11 : Int64) =>
                if rn_in x6 24 = true then
                  (some (rm_j m 51 14 ((m.2 51 14) ||| (m.2 ((70 + 8 * ((m.1 67 a6.toNatClampNeg) / 24).toNatClampNeg) + 6) x6.toNatClampNeg)))).bind fun (m13 : rn_Mem) =>
                  if rn_in x6 24 = true then
                    (some (rm_i m13 51 15 ((m13.1 51 15) ||| ((1 : Int32) <<< ((((4 : Int32) * a6) + (m13.1 ((70 + 8 * ((m.1 67 a6.toNatClampNeg) / 24).toNatClampNeg) + 1) x6.toNatClampNeg)) &&& 31))))).bind fun (m15 : rn_Mem) =>
                    (some (rm_i m15 51 16 ((m15.1 51 16) ||| ((1 : Int32) <<< ((((4 : Int32) * a6) + (m15.1 (70 + 8 * ((m.1 67 a6.toNatClampNeg) / 24).toNatClampNeg) 0)) &&& 31))))).bind fun (m16 : rn_Mem) =>
                    (some (a6 + 1)).bind fun (x17 : Int32) =>
                    se_notePlay_l9 n x9 x11 x17 m16
                  else none
                else none
              else none
            else none
          else none
        else none
      else none
    else
      some (a2, a4, m)
def se_notePlay (n : Nat) (a1 : Int32) (m : rn_Mem) : Option (rn_Mem) :=
  (some (a1.toInt64)).bind fun (x1 : Int64) =>
  (se_notePlay_l9 n 1 x1 0 m).bind fun (x20, x22, m18) =>
  (show Option (Int64 × rn_Mem) from
    if (lg_cmp (m18.2 51 12) 0) = 0 then
      some (x22, m18)
    else
      (ja_minL n (m18.2 51 13) x22 m18).bind fun (r29, m28) =>
      some (r29, m28)).bind fun (x38, m39) =>
  (some (rm_j m39 51 13 x38)).bind fun (m40 : rn_Mem) =>
  (some (rm_j m40 51 12 ((m40.2 51 12) + x20))).bind fun (m41 : rn_Mem) =>
  some m41
set_option maxHeartbeats 4000000 in
set_option maxRecDepth 20000 in
theorem se_notePlay_l9_ok (xs : List Int32) {d : Nat} (hd : 1 ≤ d + 1) {r : Option Value} {τ : rn_H} {out : Int64 × Int64 × rn_Mem} (hr : ∀ (z2 : Int64) (z4 : Int64) (mO : rn_Mem), out = (z2, z4, mO) → ∀ (o1 o3 o5 o6 o7 o8 : Option Value), rn_R xs (d + 1) 84 154 [some (.ref 51), o1, some (.long z2), o3, some (.long z4), o5, o6, o7, o8] [] (rn_SH, mO) r τ) : ∀ (n : Nat) (a2 : Int64) (a4 : Int64) (a6 : Int32) (o1 o3 o5 o7 o8 : Option Value) (m : rn_Mem), se_notePlay_l9 n a2 a4 a6 m = some out → rn_R xs (d + 1) 84 9 [some (.ref 51), o1, some (.long a2), o3, some (.long a4), o5, some (.int a6), o7, o8] [] (rn_SH, m) r τ := by
  intro n
  induction n with
  | zero =>
    intro _ _ _ _ _ _ _ _ _ h
    cases h
  | succ n ih =>
    intro a2 a4 a6 o1 o3 o5 o7 o8 m h
    unfold se_notePlay_l9 at h
    try dsimp only at h
    refine rx_p (L2 := [some (.ref 51), o1, some (.long a2), o3, some (.long a4), o5, some (.int a6), o7, o8]) (S2 := [.int a6]) (pc2 := 11) op84_9 rfl rfl ?_
    refine rx_p (L2 := [some (.ref 51), o1, some (.long a2), o3, some (.long a4), o5, some (.int a6), o7, o8]) (S2 := [.ref 51, .int a6]) (pc2 := 12) op84_11 rfl rfl ?_
    refine rx_gf (v := .ref 52) (pc2 := 15) op84_12 sp_51 rfl rfl rfl ?_
    refine rx_gf (v := .int (m.1 52 2)) (pc2 := 18) op84_15 sp_52 rfl rfl rfl ?_
    refine ry_ic_ge (tgt := 154) (pc2 := 21) op84_18 (by decide) (by decide) rfl (fun b2 => ?_) (fun b2 => ?_)
    · have h := (if_pos b2).symm.trans h
      refine rx_p (L2 := [some (.ref 51), o1, some (.long a2), o3, some (.long a4), o5, some (.int a6), o7, o8]) (S2 := [.ref 51]) (pc2 := 22) op84_21 rfl rfl ?_
      refine rx_gf (v := .ref 62) (pc2 := 25) op84_22 sp_51 rfl rfl rfl ?_
      refine rx_p (L2 := [some (.ref 51), o1, some (.long a2), o3, some (.long a4), o5, some (.int a6), o7, o8]) (S2 := [.ref 51, .ref 62]) (pc2 := 26) op84_25 rfl rfl ?_
      refine rx_gf (v := .ref 67) (pc2 := 29) op84_26 sp_51 rfl rfl rfl ?_
      refine rx_p (L2 := [some (.ref 51), o1, some (.long a2), o3, some (.long a4), o5, some (.int a6), o7, o8]) (S2 := [.int a6, .ref 67, .ref 62]) (pc2 := 31) op84_29 rfl rfl ?_
      obtain ⟨k3, h⟩ := rq_chk h
      refine rx_ia (pc2 := 32) op84_31 (rn_shlt sp_67) sp_67 k3 rfl rfl ?_
      refine rx_bp (v := 24) (pc2 := 34) op84_32 (by decide) rfl ?_
      refine rx_div (v := (m.1 67 a6.toNatClampNeg) / 24) (pc2 := 35) op84_34 (by decide) rfl rfl ?_
      obtain ⟨k4, h⟩ := rq_chk h
      refine rx_aa (q := (70 + 8 * ((m.1 67 a6.toNatClampNeg) / 24).toNatClampNeg)) (pc2 := 36) op84_35 sp_62 (by decide) k4 (rn_ways_at k4) rfl ?_
      refine rx_p (L2 := [some (.ref 51), o1, some (.long a2), o3, some (.long a4), o5, some (.int a6), some (.ref (70 + 8 * ((m.1 67 a6.toNatClampNeg) / 24).toNatClampNeg)), o8]) (S2 := []) (pc2 := 38) op84_36 rfl rfl ?_
      refine rx_p (L2 := [some (.ref 51), o1, some (.long a2), o3, some (.long a4), o5, some (.int a6), some (.ref (70 + 8 * ((m.1 67 a6.toNatClampNeg) / 24).toNatClampNeg)), o8]) (S2 := [.ref 51]) (pc2 := 39) op84_38 rfl rfl ?_
      refine rx_gf (v := .ref 67) (pc2 := 42) op84_39 sp_51 rfl rfl rfl ?_
      refine rx_p (L2 := [some (.ref 51), o1, some (.long a2), o3, some (.long a4), o5, some (.int a6), some (.ref (70 + 8 * ((m.1 67 a6.toNatClampNeg) / 24).toNatClampNeg)), o8]) (S2 := [.int a6, .ref 67]) (pc2 := 44) op84_42 rfl rfl ?_
      obtain ⟨k5, h⟩ := rq_chk h
      refine rx_ia (pc2 := 45) op84_44 (rn_shlt sp_67) sp_67 k5 rfl rfl ?_
      refine rx_bp (v := 24) (pc2 := 47) op84_45 (by decide) rfl ?_
      refine rx_rem (v := rn_rem (m.1 67 a6.toNatClampNeg) 24) (pc2 := 48) op84_47 (by decide) rfl rfl ?_
      obtain ⟨x6, ex6, h⟩ := rq_bv h
      refine rx_s (v := x6) (L2 := [some (.ref 51), o1, some (.long a2), o3, some (.long a4), o5, some (.int a6), some (.ref (70 + 8 * ((m.1 67 a6.toNatClampNeg) / 24).toNatClampNeg)), some (.int x6)]) (pc2 := 50) op84_48 ex6 rfl rfl ?_
      refine rx_p (L2 := [some (.ref 51), o1, some (.long a2), o3, some (.long a4), o5, some (.int a6), some (.ref (70 + 8 * ((m.1 67 a6.toNatClampNeg) / 24).toNatClampNeg)), some (.int x6)]) (S2 := [.long a2]) (pc2 := 51) op84_50 rfl rfl ?_
      refine rx_p (L2 := [some (.ref 51), o1, some (.long a2), o3, some (.long a4), o5, some (.int a6), some (.ref (70 + 8 * ((m.1 67 a6.toNatClampNeg) / 24).toNatClampNeg)), some (.int x6)]) (S2 := [.ref (70 + 8 * ((m.1 67 a6.toNatClampNeg) / 24).toNatClampNeg), .long a2]) (pc2 := 53) op84_51 rfl rfl ?_
      refine rx_gf (v := .ref ((70 + 8 * ((m.1 67 a6.toNatClampNeg) / 24).toNatClampNeg) + 5)) (pc2 := 56) op84_53 ((rn_ways_asm k4).1) rfl rfl rfl ?_
      refine rx_p (L2 := [some (.ref 51), o1, some (.long a2), o3, some (.long a4), o5, some (.int a6), some (.ref (70 + 8 * ((m.1 67 a6.toNatClampNeg) / 24).toNatClampNeg)), some (.int x6)]) (S2 := [.int x6, .ref ((70 + 8 * ((m.1 67 a6.toNatClampNeg) / 24).toNatClampNeg) + 5), .long a2]) (pc2 := 58) op84_56 rfl rfl ?_
      obtain ⟨k7, h⟩ := rq_chk h
      refine rx_ia (pc2 := 59) op84_58 (rn_shlt ((rn_ways_asm k4).2.2.2.2.2.1)) ((rn_ways_asm k4).2.2.2.2.2.1) k7 rfl rfl ?_
      refine rx_p (L2 := [some (.ref 51), o1, some (.long a2), o3, some (.long a4), o5, some (.int a6), some (.ref (70 + 8 * ((m.1 67 a6.toNatClampNeg) / 24).toNatClampNeg)), some (.int x6)]) (S2 := [.long ((m.1 ((70 + 8 * ((m.1 67 a6.toNatClampNeg) / 24).toNatClampNeg) + 5) x6.toNatClampNeg).toInt64), .long a2]) (pc2 := 60) op84_59 rfl rfl ?_
      refine rx_p (L2 := [some (.ref 51), o1, some (.long a2), o3, some (.long a4), o5, some (.int a6), some (.ref (70 + 8 * ((m.1 67 a6.toNatClampNeg) / 24).toNatClampNeg)), some (.int x6)]) (S2 := [.long (a2 * ((m.1 ((70 + 8 * ((m.1 67 a6.toNatClampNeg) / 24).toNatClampNeg) + 5) x6.toNatClampNeg).toInt64))]) (pc2 := 61) op84_60 rfl rfl ?_
      obtain ⟨x9, ex9, h⟩ := rq_bv h
      refine rx_sld (v := x9) (j := 1) (pc2 := 62) op84_61 rfl ex9 (Nat.le_of_ble_eq_true rfl) rfl (fun o8 => ?_)
      show rn_R _ _ _ _ [some (.ref 51), o8, some (.long x9), none, some (.long a4), o5, some (.int a6), some (.ref (70 + 8 * ((m.1 67 a6.toNatClampNeg) / 24).toNatClampNeg)), some (.int x6)] _ _ _ _
      refine rx_p (L2 := [some (.ref 51), o8, some (.long x9), none, some (.long a4), o5, some (.int a6), some (.ref (70 + 8 * ((m.1 67 a6.toNatClampNeg) / 24).toNatClampNeg)), some (.int x6)]) (S2 := [.long a4]) (pc2 := 64) op84_62 rfl rfl ?_
      refine rx_ic (v := 4) (pc2 := 65) op84_64 (by decide) rfl ?_
      refine rx_p (L2 := [some (.ref 51), o8, some (.long x9), none, some (.long a4), o5, some (.int a6), some (.ref (70 + 8 * ((m.1 67 a6.toNatClampNeg) / 24).toNatClampNeg)), some (.int x6)]) (S2 := [.ref 51, .int 4, .long a4]) (pc2 := 66) op84_65 rfl rfl ?_
      refine rx_gf (v := .ref 52) (pc2 := 69) op84_66 sp_51 rfl rfl rfl ?_
      refine rx_gf (v := .int (m.1 52 1)) (pc2 := 72) op84_69 sp_52 rfl rfl rfl ?_
      refine rx_p (L2 := [some (.ref 51), o8, some (.long x9), none, some (.long a4), o5, some (.int a6), some (.ref (70 + 8 * ((m.1 67 a6.toNatClampNeg) / 24).toNatClampNeg)), some (.int x6)]) (S2 := [.int ((4 : Int32) * (m.1 52 1)), .long a4]) (pc2 := 73) op84_72 rfl rfl ?_
      refine rx_p (L2 := [some (.ref 51), o8, some (.long x9), none, some (.long a4), o5, some (.int a6), some (.ref (70 + 8 * ((m.1 67 a6.toNatClampNeg) / 24).toNatClampNeg)), some (.int x6)]) (S2 := [.long (a4 <<< (((4 : Int32) * (m.1 52 1)).toInt64 &&& 63))]) (pc2 := 74) op84_73 rfl rfl ?_
      refine rx_p (L2 := [some (.ref 51), o8, some (.long x9), none, some (.long a4), o5, some (.int a6), some (.ref (70 + 8 * ((m.1 67 a6.toNatClampNeg) / 24).toNatClampNeg)), some (.int x6)]) (S2 := [.ref (70 + 8 * ((m.1 67 a6.toNatClampNeg) / 24).toNatClampNeg), .long (a4 <<< (((4 : Int32) * (m.1 52 1)).toInt64 &&& 63))]) (pc2 := 76) op84_74 rfl rfl ?_
      refine rx_gf (v := .ref ((70 + 8 * ((m.1 67 a6.toNatClampNeg) / 24).toNatClampNeg) + 7)) (pc2 := 79) op84_76 ((rn_ways_asm k4).1) rfl rfl rfl ?_
      refine rx_p (L2 := [some (.ref 51), o8, some (.long x9), none, some (.long a4), o5, some (.int a6), some (.ref (70 + 8 * ((m.1 67 a6.toNatClampNeg) / 24).toNatClampNeg)), some (.int x6)]) (S2 := [.int x6, .ref ((70 + 8 * ((m.1 67 a6.toNatClampNeg) / 24).toNatClampNeg) + 7), .long (a4 <<< (((4 : Int32) * (m.1 52 1)).toInt64 &&& 63))]) (pc2 := 81) op84_79 rfl rfl ?_
      obtain ⟨k10, h⟩ := rq_chk h
      refine rx_ia (pc2 := 82) op84_81 (rn_shlt ((rn_ways_asm k4).2.2.2.2.2.2.2)) ((rn_ways_asm k4).2.2.2.2.2.2.2) k10 rfl rfl ?_
      refine rx_p (L2 := [some (.ref 51), o8, some (.long x9), none, some (.long a4), o5, some (.int a6), some (.ref (70 + 8 * ((m.1 67 a6.toNatClampNeg) / 24).toNatClampNeg)), some (.int x6)]) (S2 := [.long ((m.1 ((70 + 8 * ((m.1 67 a6.toNatClampNeg) / 24).toNatClampNeg) + 7) x6.toNatClampNeg).toInt64), .long (a4 <<< (((4 : Int32) * (m.1 52 1)).toInt64 &&& 63))]) (pc2 := 83) op84_82 rfl rfl ?_
      refine rx_p (L2 := [some (.ref 51), o8, some (.long x9), none, some (.long a4), o5, some (.int a6), some (.ref (70 + 8 * ((m.1 67 a6.toNatClampNeg) / 24).toNatClampNeg)), some (.int x6)]) (S2 := [.long ((a4 <<< (((4 : Int32) * (m.1 52 1)).toInt64 &&& 63)) ||| ((m.1 ((70 + 8 * ((m.1 67 a6.toNatClampNeg) / 24).toNatClampNeg) + 7) x6.toNatClampNeg).toInt64))]) (pc2 := 84) op84_83 rfl rfl ?_
      obtain ⟨x11, ex11, h⟩ := rq_bv h
      refine rx_sl (v := x11) (L2 := [some (.ref 51), o8, some (.long x9), none, some (.long x11), none, some (.int a6), some (.ref (70 + 8 * ((m.1 67 a6.toNatClampNeg) / 24).toNatClampNeg)), some (.int x6)]) (pc2 := 86) op84_84 ex11 rfl rfl ?_
      refine rx_p (L2 := [some (.ref 51), o8, some (.long x9), none, some (.long x11), none, some (.int a6), some (.ref (70 + 8 * ((m.1 67 a6.toNatClampNeg) / 24).toNatClampNeg)), some (.int x6)]) (S2 := [.ref 51]) (pc2 := 87) op84_86 rfl rfl ?_
      refine rx_p (L2 := [some (.ref 51), o8, some (.long x9), none, some (.long x11), none, some (.int a6), some (.ref (70 + 8 * ((m.1 67 a6.toNatClampNeg) / 24).toNatClampNeg)), some (.int x6)]) (S2 := [.ref 51, .ref 51]) (pc2 := 88) op84_87 rfl rfl ?_
      refine rx_gf (v := .long (m.2 51 14)) (pc2 := 91) op84_88 sp_51 rfl rfl rfl ?_
      refine rx_p (L2 := [some (.ref 51), o8, some (.long x9), none, some (.long x11), none, some (.int a6), some (.ref (70 + 8 * ((m.1 67 a6.toNatClampNeg) / 24).toNatClampNeg)), some (.int x6)]) (S2 := [.ref (70 + 8 * ((m.1 67 a6.toNatClampNeg) / 24).toNatClampNeg), .long (m.2 51 14), .ref 51]) (pc2 := 93) op84_91 rfl rfl ?_
      refine rx_gf (v := .ref ((70 + 8 * ((m.1 67 a6.toNatClampNeg) / 24).toNatClampNeg) + 6)) (pc2 := 96) op84_93 ((rn_ways_asm k4).1) rfl rfl rfl ?_
      refine rx_p (L2 := [some (.ref 51), o8, some (.long x9), none, some (.long x11), none, some (.int a6), some (.ref (70 + 8 * ((m.1 67 a6.toNatClampNeg) / 24).toNatClampNeg)), some (.int x6)]) (S2 := [.int x6, .ref ((70 + 8 * ((m.1 67 a6.toNatClampNeg) / 24).toNatClampNeg) + 6), .long (m.2 51 14), .ref 51]) (pc2 := 98) op84_96 rfl rfl ?_
      obtain ⟨k12, h⟩ := rq_chk h
      refine rx_la (pc2 := 99) op84_98 ((rn_ways_asm k4).2.2.2.2.2.2.1) k12 rfl rfl ?_
      refine rx_p (L2 := [some (.ref 51), o8, some (.long x9), none, some (.long x11), none, some (.int a6), some (.ref (70 + 8 * ((m.1 67 a6.toNatClampNeg) / 24).toNatClampNeg)), some (.int x6)]) (S2 := [.long ((m.2 51 14) ||| (m.2 ((70 + 8 * ((m.1 67 a6.toNatClampNeg) / 24).toNatClampNeg) + 6) x6.toNatClampNeg)), .ref 51]) (pc2 := 100) op84_99 rfl rfl ?_
      obtain ⟨m13, em13, h⟩ := rq_bv h
      refine rx_pj (m2 := m13) (pc2 := 103) op84_100 sp_51 rfl em13 rfl ?_
      refine rx_p (L2 := [some (.ref 51), o8, some (.long x9), none, some (.long x11), none, some (.int a6), some (.ref (70 + 8 * ((m.1 67 a6.toNatClampNeg) / 24).toNatClampNeg)), some (.int x6)]) (S2 := [.ref 51]) (pc2 := 104) op84_103 rfl rfl ?_
      refine rx_p (L2 := [some (.ref 51), o8, some (.long x9), none, some (.long x11), none, some (.int a6), some (.ref (70 + 8 * ((m.1 67 a6.toNatClampNeg) / 24).toNatClampNeg)), some (.int x6)]) (S2 := [.ref 51, .ref 51]) (pc2 := 105) op84_104 rfl rfl ?_
      refine rx_gf (v := .int (m13.1 51 15)) (pc2 := 108) op84_105 sp_51 rfl rfl rfl ?_
      refine rx_ic (v := 1) (pc2 := 109) op84_108 (by decide) rfl ?_
      refine rx_ic (v := 4) (pc2 := 110) op84_109 (by decide) rfl ?_
      refine rx_p (L2 := [some (.ref 51), o8, some (.long x9), none, some (.long x11), none, some (.int a6), some (.ref (70 + 8 * ((m.1 67 a6.toNatClampNeg) / 24).toNatClampNeg)), some (.int x6)]) (S2 := [.int a6, .int 4, .int 1, .int (m13.1 51 15), .ref 51]) (pc2 := 112) op84_110 rfl rfl ?_
      refine rx_p (L2 := [some (.ref 51), o8, some (.long x9), none, some (.long x11), none, some (.int a6), some (.ref (70 + 8 * ((m.1 67 a6.toNatClampNeg) / 24).toNatClampNeg)), some (.int x6)]) (S2 := [.int ((4 : Int32) * a6), .int 1, .int (m13.1 51 15), .ref 51]) (pc2 := 113) op84_112 rfl rfl ?_
      refine rx_p (L2 := [some (.ref 51), o8, some (.long x9), none, some (.long x11), none, some (.int a6), some (.ref (70 + 8 * ((m.1 67 a6.toNatClampNeg) / 24).toNatClampNeg)), some (.int x6)]) (S2 := [.ref (70 + 8 * ((m.1 67 a6.toNatClampNeg) / 24).toNatClampNeg), .int ((4 : Int32) * a6), .int 1, .int (m13.1 51 15), .ref 51]) (pc2 := 115) op84_113 rfl rfl ?_
      refine rx_gf (v := .ref ((70 + 8 * ((m.1 67 a6.toNatClampNeg) / 24).toNatClampNeg) + 1)) (pc2 := 118) op84_115 ((rn_ways_asm k4).1) rfl rfl rfl ?_
      refine rx_p (L2 := [some (.ref 51), o8, some (.long x9), none, some (.long x11), none, some (.int a6), some (.ref (70 + 8 * ((m.1 67 a6.toNatClampNeg) / 24).toNatClampNeg)), some (.int x6)]) (S2 := [.int x6, .ref ((70 + 8 * ((m.1 67 a6.toNatClampNeg) / 24).toNatClampNeg) + 1), .int ((4 : Int32) * a6), .int 1, .int (m13.1 51 15), .ref 51]) (pc2 := 120) op84_118 rfl rfl ?_
      obtain ⟨k14, h⟩ := rq_chk h
      refine rx_ia (pc2 := 121) op84_120 (rn_shlt ((rn_ways_asm k4).2.1)) ((rn_ways_asm k4).2.1) k14 rfl rfl ?_
      refine rx_p (L2 := [some (.ref 51), o8, some (.long x9), none, some (.long x11), none, some (.int a6), some (.ref (70 + 8 * ((m.1 67 a6.toNatClampNeg) / 24).toNatClampNeg)), some (.int x6)]) (S2 := [.int (((4 : Int32) * a6) + (m13.1 ((70 + 8 * ((m.1 67 a6.toNatClampNeg) / 24).toNatClampNeg) + 1) x6.toNatClampNeg)), .int 1, .int (m13.1 51 15), .ref 51]) (pc2 := 122) op84_121 rfl rfl ?_
      refine rx_p (L2 := [some (.ref 51), o8, some (.long x9), none, some (.long x11), none, some (.int a6), some (.ref (70 + 8 * ((m.1 67 a6.toNatClampNeg) / 24).toNatClampNeg)), some (.int x6)]) (S2 := [.int ((1 : Int32) <<< ((((4 : Int32) * a6) + (m13.1 ((70 + 8 * ((m.1 67 a6.toNatClampNeg) / 24).toNatClampNeg) + 1) x6.toNatClampNeg)) &&& 31)), .int (m13.1 51 15), .ref 51]) (pc2 := 123) op84_122 rfl rfl ?_
      refine rx_p (L2 := [some (.ref 51), o8, some (.long x9), none, some (.long x11), none, some (.int a6), some (.ref (70 + 8 * ((m.1 67 a6.toNatClampNeg) / 24).toNatClampNeg)), some (.int x6)]) (S2 := [.int ((m13.1 51 15) ||| ((1 : Int32) <<< ((((4 : Int32) * a6) + (m13.1 ((70 + 8 * ((m.1 67 a6.toNatClampNeg) / 24).toNatClampNeg) + 1) x6.toNatClampNeg)) &&& 31))), .ref 51]) (pc2 := 124) op84_123 rfl rfl ?_
      obtain ⟨m15, em15, h⟩ := rq_bv h
      refine rx_pf (m2 := m15) (pc2 := 127) op84_124 sp_51 rfl em15 rfl ?_
      refine rx_p (L2 := [some (.ref 51), o8, some (.long x9), none, some (.long x11), none, some (.int a6), some (.ref (70 + 8 * ((m.1 67 a6.toNatClampNeg) / 24).toNatClampNeg)), some (.int x6)]) (S2 := [.ref 51]) (pc2 := 128) op84_127 rfl rfl ?_
      refine rx_p (L2 := [some (.ref 51), o8, some (.long x9), none, some (.long x11), none, some (.int a6), some (.ref (70 + 8 * ((m.1 67 a6.toNatClampNeg) / 24).toNatClampNeg)), some (.int x6)]) (S2 := [.ref 51, .ref 51]) (pc2 := 129) op84_128 rfl rfl ?_
      refine rx_gf (v := .int (m15.1 51 16)) (pc2 := 132) op84_129 sp_51 rfl rfl rfl ?_
      refine rx_ic (v := 1) (pc2 := 133) op84_132 (by decide) rfl ?_
      refine rx_ic (v := 4) (pc2 := 134) op84_133 (by decide) rfl ?_
      refine rx_p (L2 := [some (.ref 51), o8, some (.long x9), none, some (.long x11), none, some (.int a6), some (.ref (70 + 8 * ((m.1 67 a6.toNatClampNeg) / 24).toNatClampNeg)), some (.int x6)]) (S2 := [.int a6, .int 4, .int 1, .int (m15.1 51 16), .ref 51]) (pc2 := 136) op84_134 rfl rfl ?_
      refine rx_p (L2 := [some (.ref 51), o8, some (.long x9), none, some (.long x11), none, some (.int a6), some (.ref (70 + 8 * ((m.1 67 a6.toNatClampNeg) / 24).toNatClampNeg)), some (.int x6)]) (S2 := [.int ((4 : Int32) * a6), .int 1, .int (m15.1 51 16), .ref 51]) (pc2 := 137) op84_136 rfl rfl ?_
      refine rx_p (L2 := [some (.ref 51), o8, some (.long x9), none, some (.long x11), none, some (.int a6), some (.ref (70 + 8 * ((m.1 67 a6.toNatClampNeg) / 24).toNatClampNeg)), some (.int x6)]) (S2 := [.ref (70 + 8 * ((m.1 67 a6.toNatClampNeg) / 24).toNatClampNeg), .int ((4 : Int32) * a6), .int 1, .int (m15.1 51 16), .ref 51]) (pc2 := 139) op84_137 rfl rfl ?_
      refine rx_gf (v := .int (m15.1 (70 + 8 * ((m.1 67 a6.toNatClampNeg) / 24).toNatClampNeg) 0)) (pc2 := 142) op84_139 ((rn_ways_asm k4).1) rfl rfl rfl ?_
      refine rx_p (L2 := [some (.ref 51), o8, some (.long x9), none, some (.long x11), none, some (.int a6), some (.ref (70 + 8 * ((m.1 67 a6.toNatClampNeg) / 24).toNatClampNeg)), some (.int x6)]) (S2 := [.int (((4 : Int32) * a6) + (m15.1 (70 + 8 * ((m.1 67 a6.toNatClampNeg) / 24).toNatClampNeg) 0)), .int 1, .int (m15.1 51 16), .ref 51]) (pc2 := 143) op84_142 rfl rfl ?_
      refine rx_p (L2 := [some (.ref 51), o8, some (.long x9), none, some (.long x11), none, some (.int a6), some (.ref (70 + 8 * ((m.1 67 a6.toNatClampNeg) / 24).toNatClampNeg)), some (.int x6)]) (S2 := [.int ((1 : Int32) <<< ((((4 : Int32) * a6) + (m15.1 (70 + 8 * ((m.1 67 a6.toNatClampNeg) / 24).toNatClampNeg) 0)) &&& 31)), .int (m15.1 51 16), .ref 51]) (pc2 := 144) op84_143 rfl rfl ?_
      refine rx_p (L2 := [some (.ref 51), o8, some (.long x9), none, some (.long x11), none, some (.int a6), some (.ref (70 + 8 * ((m.1 67 a6.toNatClampNeg) / 24).toNatClampNeg)), some (.int x6)]) (S2 := [.int ((m15.1 51 16) ||| ((1 : Int32) <<< ((((4 : Int32) * a6) + (m15.1 (70 + 8 * ((m.1 67 a6.toNatClampNeg) / 24).toNatClampNeg) 0)) &&& 31))), .ref 51]) (pc2 := 145) op84_144 rfl rfl ?_
      obtain ⟨m16, em16, h⟩ := rq_bv h
      refine rx_pf (m2 := m16) (pc2 := 148) op84_145 sp_51 rfl em16 rfl ?_
      obtain ⟨x17, ex17, h⟩ := rq_bv h
      refine rx_inc (w := 1) (v := x17) (L2 := [some (.ref 51), o8, some (.long x9), none, some (.long x11), none, some (.int x17), some (.ref (70 + 8 * ((m.1 67 a6.toNatClampNeg) / 24).toNatClampNeg)), some (.int x6)]) (pc2 := 151) op84_148 rfl (by decide) ex17 rfl rfl ?_
      refine ry_go (tgt := 9) op84_151 (by decide) (by decide) ?_
      exact ih _ _ _ _ _ _ _ _ _ h
    · have h := (if_neg b2).symm.trans h
      cases h
      exact hr _ _ _ rfl _ _ _ _ _ _
set_option maxHeartbeats 4000000 in
set_option maxRecDepth 20000 in
theorem se_notePlay_ok (xs : List Int32) {d : Nat} (hd : 1 ≤ d) {n : Nat} {a1 : Int32} {m mO : rn_Mem} (h : se_notePlay n a1 m = some mO) : rn_R xs d 84 0 (rn_ent 9 [.ref 51, .int a1]) [] (rn_SH, m) none (rn_SH, mO) := by
  obtain ⟨d, rfl⟩ : ∃ e, d = e + 1 := ⟨d - 1, by omega⟩
  unfold se_notePlay at h
  show rn_R xs (d + 1) 84 0 [some (.ref 51), some (.int a1), none, none, none, none, none, none, none] [] (rn_SH, m) none (rn_SH, mO)
  refine rx_lc (v := 1) (pc2 := 1) op84_0 (by decide) rfl ?_
  refine rx_sl (L2 := [some (.ref 51), some (.int a1), some (.long 1), none, none, none, none, none, none]) (pc2 := 2) op84_1 rfl rfl rfl ?_
  refine rx_p (L2 := [some (.ref 51), some (.int a1), some (.long 1), none, none, none, none, none, none]) (S2 := [.int a1]) (pc2 := 3) op84_2 rfl rfl ?_
  refine rx_p (L2 := [some (.ref 51), some (.int a1), some (.long 1), none, none, none, none, none, none]) (S2 := [.long (a1.toInt64)]) (pc2 := 4) op84_3 rfl rfl ?_
  obtain ⟨x1, ex1, h⟩ := rq_bv h
  refine rx_sl (v := x1) (L2 := [some (.ref 51), some (.int a1), some (.long 1), none, some (.long x1), none, none, none, none]) (pc2 := 6) op84_4 ex1 rfl rfl ?_
  refine rx_ic (v := 0) (pc2 := 7) op84_6 (by decide) rfl ?_
  refine rx_s (L2 := [some (.ref 51), some (.int a1), some (.long 1), none, some (.long x1), none, some (.int 0), none, none]) (pc2 := 9) op84_7 rfl rfl rfl ?_
  obtain ⟨wf43, f43, h⟩ := rq_bind h
  refine se_notePlay_l9_ok xs hd (fun x20 x22 m18 eq => ?_) _ _ _ _ _ _ _ _ _ _  f43
  subst eq
  try dsimp only at h
  intro o19 o21 o23 o24 o25 o26
  refine rx_p (L2 := [some (.ref 51), o19, some (.long x20), o21, some (.long x22), o23, o24, o25, o26]) (S2 := [.ref 51]) (pc2 := 155) op84_154 rfl rfl ?_
  refine rx_p (L2 := [some (.ref 51), o19, some (.long x20), o21, some (.long x22), o23, o24, o25, o26]) (S2 := [.ref 51, .ref 51]) (pc2 := 156) op84_155 rfl rfl ?_
  refine rx_gf (v := .long (m18.2 51 12)) (pc2 := 159) op84_156 sp_51 rfl rfl rfl ?_
  refine rx_lc (v := 0) (pc2 := 160) op84_159 (by decide) rfl ?_
  refine rx_p (L2 := [some (.ref 51), o19, some (.long x20), o21, some (.long x22), o23, o24, o25, o26]) (S2 := [.int (lg_cmp (m18.2 51 12) 0), .ref 51]) (pc2 := 161) op84_160 rfl rfl ?_
  obtain ⟨⟨x38, m39⟩, gc42, h⟩ := rq_bind h
  try dsimp only at h
  have c42 : ∀ (o31 o32 o33 o34 o35 o36 o37 : Option Value), rn_R xs (d + 1) 84 178 [some (.ref 51), o31, some (.long x20), o32, o33, o34, o35, o36, o37] [.long x38, .ref 51] (rn_SH, m39) none (rn_SH, mO) := by
    intro o31 o32 o33 o34 o35 o36 o37
    obtain ⟨m40, em40, h⟩ := rq_bv h
    refine rx_pj (m2 := m40) (pc2 := 181) op84_178 sp_51 rfl em40 rfl ?_
    refine rx_p (L2 := [some (.ref 51), o31, some (.long x20), o32, o33, o34, o35, o36, o37]) (S2 := [.ref 51]) (pc2 := 182) op84_181 rfl rfl ?_
    refine rx_p (L2 := [some (.ref 51), o31, some (.long x20), o32, o33, o34, o35, o36, o37]) (S2 := [.ref 51, .ref 51]) (pc2 := 183) op84_182 rfl rfl ?_
    refine rx_gf (v := .long (m40.2 51 12)) (pc2 := 186) op84_183 sp_51 rfl rfl rfl ?_
    refine rx_p (L2 := [some (.ref 51), o31, some (.long x20), o32, o33, o34, o35, o36, o37]) (S2 := [.long x20, .long (m40.2 51 12), .ref 51]) (pc2 := 187) op84_186 rfl rfl ?_
    refine rx_p (L2 := [some (.ref 51), o31, some (.long x20), o32, o33, o34, o35, o36, o37]) (S2 := [.long ((m40.2 51 12) + x20), .ref 51]) (pc2 := 188) op84_187 rfl rfl ?_
    obtain ⟨m41, em41, h⟩ := rq_bv h
    refine rx_pj (m2 := m41) (pc2 := 191) op84_188 sp_51 rfl em41 rfl ?_
    obtain rfl := Option.some.inj h
    exact ry_rv op84_191 ms_84 rfl
  refine ry_if_ne (tgt := 169) (pc2 := 164) op84_161 (by decide) (by decide) rfl (fun b27 => ?_) (fun b27 => ?_)
  · have gc42 := (if_pos b27).symm.trans gc42
    refine rx_p (L2 := [some (.ref 51), o19, some (.long x20), o21, some (.long x22), o23, o24, o25, o26]) (S2 := [.long x22, .ref 51]) (pc2 := 166) op84_164 rfl rfl ?_
    refine ry_go (tgt := 178) op84_166 (by decide) (by decide) ?_
    cases gc42
    exact c42 _ _ _ _ _ _ _
  · have gc42 := (if_neg b27).symm.trans gc42
    refine rx_p (L2 := [some (.ref 51), o19, some (.long x20), o21, some (.long x22), o23, o24, o25, o26]) (S2 := [.ref 51, .ref 51]) (pc2 := 170) op84_169 rfl rfl ?_
    refine rx_gf (v := .long (m18.2 51 13)) (pc2 := 173) op84_170 sp_51 rfl rfl rfl ?_
    refine rx_p (L2 := [some (.ref 51), o19, some (.long x20), o21, some (.long x22), o23, o24, o25, o26]) (S2 := [.long x22, .long (m18.2 51 13), .ref 51]) (pc2 := 175) op84_173 rfl rfl ?_
    obtain ⟨⟨r29, m28⟩, f30, gc42⟩ := rq_bind gc42
    try dsimp only at gc42
    refine ry_is (vs := [.long (m18.2 51 13), .long x22]) (T := [.ref 51]) (pc2 := 178) op84_175 (by decide) ms_85 (by decide) rfl rfl (Nat.le_of_ble_eq_true rfl) (Nat.le_of_ble_eq_true rfl) (ja_minL_ok xs (by omega)  f30) rfl ?_
    show rn_R _ _ _ _ _ [.long r29, .ref 51] _ _ _
    cases gc42
    exact c42 _ _ _ _ _ _ _
/-! se_noteLess -/
theorem op86_0 : rn_op 86 0 = some (.aload_n 0, 1, 0, 0, 0) := by decide +kernel
theorem op86_1 : rn_op 86 1 = some (.getfield 76, 3, 4, 10, 0) := by decide +kernel
theorem op86_4 : rn_op 86 4 = some (.iconst 1, 1, 0, 0, 0) := by decide +kernel
theorem op86_5 : rn_op 86 5 = some (.if_icmp .ne 9, 3, 0, 0, 0) := by decide +kernel
theorem op86_8 : rn_op 86 8 = some (.aload_n 0, 1, 0, 0, 0) := by decide +kernel
theorem op86_9 : rn_op 86 9 = some (.iload_n 1, 1, 0, 0, 0) := by decide +kernel
theorem op86_10 : rn_op 86 10 = some (.putfield 104, 3, 4, 11, 0) := by decide +kernel
theorem op86_13 : rn_op 86 13 = some (.return_, 1, 0, 0, 0) := by decide +kernel
theorem op86_14 : rn_op 86 14 = some (.aload_n 0, 1, 0, 0, 0) := by decide +kernel
theorem op86_15 : rn_op 86 15 = some (.getfield 57, 3, 4, 19, 3) := by decide +kernel
theorem op86_18 : rn_op 86 18 = some (.iconst 0, 1, 0, 0, 0) := by decide +kernel
theorem op86_19 : rn_op 86 19 = some (.aload_n 0, 1, 0, 0, 0) := by decide +kernel
theorem op86_20 : rn_op 86 20 = some (.getfield 57, 3, 4, 19, 3) := by decide +kernel
theorem op86_23 : rn_op 86 23 = some (.iconst 0, 1, 0, 0, 0) := by decide +kernel
theorem op86_24 : rn_op 86 24 = some (.iaload, 1, 0, 0, 0) := by decide +kernel
theorem op86_25 : rn_op 86 25 = some (.iload_n 1, 1, 0, 0, 0) := by decide +kernel
theorem op86_26 : rn_op 86 26 = some (.invokestatic 246, 3, 21, 2, 0) := by decide +kernel
theorem op86_29 : rn_op 86 29 = some (.iastore, 1, 0, 0, 0) := by decide +kernel
theorem op86_30 : rn_op 86 30 = some (.iconst 0, 1, 0, 0, 0) := by decide +kernel
theorem op86_31 : rn_op 86 31 = some (.istore_n 3, 1, 0, 0, 0) := by decide +kernel
theorem op86_32 : rn_op 86 32 = some (.iload_n 3, 1, 0, 0, 0) := by decide +kernel
theorem op86_33 : rn_op 86 33 = some (.aload_n 0, 1, 0, 0, 0) := by decide +kernel
theorem op86_34 : rn_op 86 34 = some (.getfield 12, 3, 4, 0, 3) := by decide +kernel
theorem op86_37 : rn_op 86 37 = some (.getfield 101, 3, 1, 1, 0) := by decide +kernel
theorem op86_40 : rn_op 86 40 = some (.if_icmp .ge 39, 3, 0, 0, 0) := by decide +kernel
theorem op86_43 : rn_op 86 43 = some (.iload_n 2, 1, 0, 0, 0) := by decide +kernel
theorem op86_44 : rn_op 86 44 = some (.iconst 4, 1, 0, 0, 0) := by decide +kernel
theorem op86_45 : rn_op 86 45 = some (.iload_n 3, 1, 0, 0, 0) := by decide +kernel
theorem op86_46 : rn_op 86 46 = some (.imul, 1, 0, 0, 0) := by decide +kernel
theorem op86_47 : rn_op 86 47 = some (.ishr, 1, 0, 0, 0) := by decide +kernel
theorem op86_48 : rn_op 86 48 = some (.iconst 1, 1, 0, 0, 0) := by decide +kernel
theorem op86_49 : rn_op 86 49 = some (.iand, 1, 0, 0, 0) := by decide +kernel
theorem op86_50 : rn_op 86 50 = some (.ifCond .ne 23, 3, 0, 0, 0) := by decide +kernel
theorem op86_53 : rn_op 86 53 = some (.aload_n 0, 1, 0, 0, 0) := by decide +kernel
theorem op86_54 : rn_op 86 54 = some (.getfield 57, 3, 4, 19, 3) := by decide +kernel
theorem op86_57 : rn_op 86 57 = some (.iload_n 3, 1, 0, 0, 0) := by decide +kernel
theorem op86_58 : rn_op 86 58 = some (.iconst 1, 1, 0, 0, 0) := by decide +kernel
theorem op86_59 : rn_op 86 59 = some (.iadd, 1, 0, 0, 0) := by decide +kernel
theorem op86_60 : rn_op 86 60 = some (.aload_n 0, 1, 0, 0, 0) := by decide +kernel
theorem op86_61 : rn_op 86 61 = some (.getfield 57, 3, 4, 19, 3) := by decide +kernel
theorem op86_64 : rn_op 86 64 = some (.iload_n 3, 1, 0, 0, 0) := by decide +kernel
theorem op86_65 : rn_op 86 65 = some (.iconst 1, 1, 0, 0, 0) := by decide +kernel
theorem op86_66 : rn_op 86 66 = some (.iadd, 1, 0, 0, 0) := by decide +kernel
theorem op86_67 : rn_op 86 67 = some (.iaload, 1, 0, 0, 0) := by decide +kernel
theorem op86_68 : rn_op 86 68 = some (.iload_n 1, 1, 0, 0, 0) := by decide +kernel
theorem op86_69 : rn_op 86 69 = some (.invokestatic 246, 3, 21, 2, 0) := by decide +kernel
theorem op86_72 : rn_op 86 72 = some (.iastore, 1, 0, 0, 0) := by decide +kernel
theorem op86_73 : rn_op 86 73 = some (.iinc 3 1, 3, 0, 0, 0) := by decide +kernel
theorem op86_76 : rn_op 86 76 = some (.goto (-44), 3, 0, 0, 0) := by decide +kernel
theorem op86_79 : rn_op 86 79 = some (.return_, 1, 0, 0, 0) := by decide +kernel
def se_noteLess_l32 (a1 : Int32) (a2 : Int32) : Nat → Int32 → rn_Mem → Option (rn_Mem)
  | 0, _, _ => none
  | n + 1, a3, m =>
    if a3 < (m.1 52 1) then
      (show Option (rn_Mem) from
        if ((a2 >>> (((4 : Int32) * a3) &&& 31)) &&& 1) = 0 then
          if rn_in (a3 + 1) 5 = true then
            (ja_min n (m.1 69 (a3 + 1).toNatClampNeg) a1 m).bind fun (r11, m10) =>
            if rn_in (a3 + 1) 5 = true then
              (some (rm_i m10 69 (a3 + 1).toNatClampNeg r11)).bind fun (m13 : rn_Mem) =>
              some (m13)
            else none
          else none
        else
          some (m)).bind fun m15 =>
      (some (a3 + 1)).bind fun (x16 : Int32) =>
      se_noteLess_l32 a1 a2 n x16 m15
    else
      some m
def se_noteLess (n : Nat) (a1 : Int32) (a2 : Int32) (m : rn_Mem) : Option (rn_Mem) :=
  if (m.1 51 10) = 1 then
    (some (rm_i m 51 11 a1)).bind fun (m2 : rn_Mem) =>
    some m2
  else
    (ja_min n (m.1 69 0) a1 m).bind fun (r4, m3) =>
    (some (rm_i m3 69 0 r4)).bind fun (m6 : rn_Mem) =>
    (se_noteLess_l32 a1 a2 n 0 m6).bind fun m18 =>
    some m18
set_option maxHeartbeats 4000000 in
set_option maxRecDepth 20000 in
theorem se_noteLess_l32_ok (xs : List Int32) {d : Nat} (hd : 1 ≤ d + 1) {a1 : Int32} {a2 : Int32} {r : Option Value} {τ : rn_H} {out : rn_Mem} (hr : ∀ (mO : rn_Mem), out = mO → ∀ (o0 o1 o2 o3 : Option Value), rn_R xs (d + 1) 86 79 [o0, o1, o2, o3] [] (rn_SH, mO) r τ) : ∀ (n : Nat) (a3 : Int32) (m : rn_Mem), se_noteLess_l32 a1 a2 n a3 m = some out → rn_R xs (d + 1) 86 32 [some (.ref 51), some (.int a1), some (.int a2), some (.int a3)] [] (rn_SH, m) r τ := by
  intro n
  induction n with
  | zero =>
    intro _ _ h
    cases h
  | succ n ih =>
    intro a3 m h
    unfold se_noteLess_l32 at h
    try dsimp only at h
    refine rx_p (L2 := [some (.ref 51), some (.int a1), some (.int a2), some (.int a3)]) (S2 := [.int a3]) (pc2 := 33) op86_32 rfl rfl ?_
    refine rx_p (L2 := [some (.ref 51), some (.int a1), some (.int a2), some (.int a3)]) (S2 := [.ref 51, .int a3]) (pc2 := 34) op86_33 rfl rfl ?_
    refine rx_gf (v := .ref 52) (pc2 := 37) op86_34 sp_51 rfl rfl rfl ?_
    refine rx_gf (v := .int (m.1 52 1)) (pc2 := 40) op86_37 sp_52 rfl rfl rfl ?_
    refine ry_ic_ge (tgt := 79) (pc2 := 43) op86_40 (by decide) (by decide) rfl (fun b7 => ?_) (fun b7 => ?_)
    · have h := (if_pos b7).symm.trans h
      refine rx_p (L2 := [some (.ref 51), some (.int a1), some (.int a2), some (.int a3)]) (S2 := [.int a2]) (pc2 := 44) op86_43 rfl rfl ?_
      refine rx_ic (v := 4) (pc2 := 45) op86_44 (by decide) rfl ?_
      refine rx_p (L2 := [some (.ref 51), some (.int a1), some (.int a2), some (.int a3)]) (S2 := [.int a3, .int 4, .int a2]) (pc2 := 46) op86_45 rfl rfl ?_
      refine rx_p (L2 := [some (.ref 51), some (.int a1), some (.int a2), some (.int a3)]) (S2 := [.int ((4 : Int32) * a3), .int a2]) (pc2 := 47) op86_46 rfl rfl ?_
      refine rx_p (L2 := [some (.ref 51), some (.int a1), some (.int a2), some (.int a3)]) (S2 := [.int (a2 >>> (((4 : Int32) * a3) &&& 31))]) (pc2 := 48) op86_47 rfl rfl ?_
      refine rx_ic (v := 1) (pc2 := 49) op86_48 (by decide) rfl ?_
      refine rx_p (L2 := [some (.ref 51), some (.int a1), some (.int a2), some (.int a3)]) (S2 := [.int ((a2 >>> (((4 : Int32) * a3) &&& 31)) &&& 1)]) (pc2 := 50) op86_49 rfl rfl ?_
      obtain ⟨m15, gc17, h⟩ := rq_bind h
      try dsimp only at h
      have c17 : ∀ (_ : Unit), rn_R xs (d + 1) 86 73 [some (.ref 51), some (.int a1), some (.int a2), some (.int a3)] [] (rn_SH, m15) r τ := by
        intro _
        obtain ⟨x16, ex16, h⟩ := rq_bv h
        refine rx_inc (w := 1) (v := x16) (L2 := [some (.ref 51), some (.int a1), some (.int a2), some (.int x16)]) (pc2 := 76) op86_73 rfl (by decide) ex16 rfl rfl ?_
        refine ry_go (tgt := 32) op86_76 (by decide) (by decide) ?_
        exact ih _ _ h
      refine ry_if_ne (tgt := 73) (pc2 := 53) op86_50 (by decide) (by decide) rfl (fun b8 => ?_) (fun b8 => ?_)
      · have gc17 := (if_pos b8).symm.trans gc17
        refine rx_p (L2 := [some (.ref 51), some (.int a1), some (.int a2), some (.int a3)]) (S2 := [.ref 51]) (pc2 := 54) op86_53 rfl rfl ?_
        refine rx_gf (v := .ref 69) (pc2 := 57) op86_54 sp_51 rfl rfl rfl ?_
        refine rx_p (L2 := [some (.ref 51), some (.int a1), some (.int a2), some (.int a3)]) (S2 := [.int a3, .ref 69]) (pc2 := 58) op86_57 rfl rfl ?_
        refine rx_ic (v := 1) (pc2 := 59) op86_58 (by decide) rfl ?_
        refine rx_p (L2 := [some (.ref 51), some (.int a1), some (.int a2), some (.int a3)]) (S2 := [.int (a3 + 1), .ref 69]) (pc2 := 60) op86_59 rfl rfl ?_
        refine rx_p (L2 := [some (.ref 51), some (.int a1), some (.int a2), some (.int a3)]) (S2 := [.ref 51, .int (a3 + 1), .ref 69]) (pc2 := 61) op86_60 rfl rfl ?_
        refine rx_gf (v := .ref 69) (pc2 := 64) op86_61 sp_51 rfl rfl rfl ?_
        refine rx_p (L2 := [some (.ref 51), some (.int a1), some (.int a2), some (.int a3)]) (S2 := [.int a3, .ref 69, .int (a3 + 1), .ref 69]) (pc2 := 65) op86_64 rfl rfl ?_
        refine rx_ic (v := 1) (pc2 := 66) op86_65 (by decide) rfl ?_
        refine rx_p (L2 := [some (.ref 51), some (.int a1), some (.int a2), some (.int a3)]) (S2 := [.int (a3 + 1), .ref 69, .int (a3 + 1), .ref 69]) (pc2 := 67) op86_66 rfl rfl ?_
        obtain ⟨k9, gc17⟩ := rq_chk gc17
        refine rx_ia (pc2 := 68) op86_67 (rn_shlt sp_69) sp_69 k9 rfl rfl ?_
        refine rx_p (L2 := [some (.ref 51), some (.int a1), some (.int a2), some (.int a3)]) (S2 := [.int a1, .int (m.1 69 (a3 + 1).toNatClampNeg), .int (a3 + 1), .ref 69]) (pc2 := 69) op86_68 rfl rfl ?_
        obtain ⟨⟨r11, m10⟩, f12, gc17⟩ := rq_bind gc17
        try dsimp only at gc17
        refine ry_is (vs := [.int (m.1 69 (a3 + 1).toNatClampNeg), .int a1]) (T := [.int (a3 + 1), .ref 69]) (pc2 := 72) op86_69 (by decide) ms_21 (by decide) rfl rfl (Nat.le_of_ble_eq_true rfl) (Nat.le_of_ble_eq_true rfl) (ja_min_ok xs (by omega)  f12) rfl ?_
        show rn_R _ _ _ _ _ [.int r11, .int (a3 + 1), .ref 69] _ _ _
        obtain ⟨k14, gc17⟩ := rq_chk gc17
        obtain ⟨m13, em13, gc17⟩ := rq_bv gc17
        refine rx_is (m2 := m13) (pc2 := 73) op86_72 sp_69 k14 rfl em13 rfl ?_
        cases gc17
        exact c17 ()
      · have gc17 := (if_neg b8).symm.trans gc17
        cases gc17
        exact c17 ()
    · have h := (if_neg b7).symm.trans h
      cases h
      exact hr _ rfl _ _ _ _
set_option maxHeartbeats 4000000 in
set_option maxRecDepth 20000 in
theorem se_noteLess_ok (xs : List Int32) {d : Nat} (hd : 1 ≤ d) {n : Nat} {a1 : Int32} {a2 : Int32} {m mO : rn_Mem} (h : se_noteLess n a1 a2 m = some mO) : rn_R xs d 86 0 (rn_ent 4 [.ref 51, .int a1, .int a2]) [] (rn_SH, m) none (rn_SH, mO) := by
  obtain ⟨d, rfl⟩ : ∃ e, d = e + 1 := ⟨d - 1, by omega⟩
  unfold se_noteLess at h
  show rn_R xs (d + 1) 86 0 [some (.ref 51), some (.int a1), some (.int a2), none] [] (rn_SH, m) none (rn_SH, mO)
  refine rx_p (L2 := [some (.ref 51), some (.int a1), some (.int a2), none]) (S2 := [.ref 51]) (pc2 := 1) op86_0 rfl rfl ?_
  refine rx_gf (v := .int (m.1 51 10)) (pc2 := 4) op86_1 sp_51 rfl rfl rfl ?_
  refine rx_ic (v := 1) (pc2 := 5) op86_4 (by decide) rfl ?_
  refine ry_ic_ne (tgt := 14) (pc2 := 8) op86_5 (by decide) (by decide) rfl (fun b1 => ?_) (fun b1 => ?_)
  · have h := (if_pos b1).symm.trans h
    refine rx_p (L2 := [some (.ref 51), some (.int a1), some (.int a2), none]) (S2 := [.ref 51]) (pc2 := 9) op86_8 rfl rfl ?_
    refine rx_p (L2 := [some (.ref 51), some (.int a1), some (.int a2), none]) (S2 := [.int a1, .ref 51]) (pc2 := 10) op86_9 rfl rfl ?_
    obtain ⟨m2, em2, h⟩ := rq_bv h
    refine rx_pf (m2 := m2) (pc2 := 13) op86_10 sp_51 rfl em2 rfl ?_
    obtain rfl := Option.some.inj h
    exact ry_rv op86_13 ms_86 rfl
  · have h := (if_neg b1).symm.trans h
    refine rx_p (L2 := [some (.ref 51), some (.int a1), some (.int a2), none]) (S2 := [.ref 51]) (pc2 := 15) op86_14 rfl rfl ?_
    refine rx_gf (v := .ref 69) (pc2 := 18) op86_15 sp_51 rfl rfl rfl ?_
    refine rx_ic (v := 0) (pc2 := 19) op86_18 (by decide) rfl ?_
    refine rx_p (L2 := [some (.ref 51), some (.int a1), some (.int a2), none]) (S2 := [.ref 51, .int 0, .ref 69]) (pc2 := 20) op86_19 rfl rfl ?_
    refine rx_gf (v := .ref 69) (pc2 := 23) op86_20 sp_51 rfl rfl rfl ?_
    refine rx_ic (v := 0) (pc2 := 24) op86_23 (by decide) rfl ?_
    refine rx_ia (j := 0) (pc2 := 25) op86_24 (rn_shlt sp_69) sp_69 (by decide) (by decide) rfl ?_
    refine rx_p (L2 := [some (.ref 51), some (.int a1), some (.int a2), none]) (S2 := [.int a1, .int (m.1 69 0), .int 0, .ref 69]) (pc2 := 26) op86_25 rfl rfl ?_
    obtain ⟨⟨r4, m3⟩, f5, h⟩ := rq_bind h
    try dsimp only at h
    refine ry_is (vs := [.int (m.1 69 0), .int a1]) (T := [.int 0, .ref 69]) (pc2 := 29) op86_26 (by decide) ms_21 (by decide) rfl rfl (Nat.le_of_ble_eq_true rfl) (Nat.le_of_ble_eq_true rfl) (ja_min_ok xs (by omega)  f5) rfl ?_
    show rn_R _ _ _ _ _ [.int r4, .int 0, .ref 69] _ _ _
    obtain ⟨m6, em6, h⟩ := rq_bv h
    refine rx_is (j := 0) (m2 := m6) (pc2 := 30) op86_29 sp_69 (by decide) (by decide) em6 rfl ?_
    refine rx_ic (v := 0) (pc2 := 31) op86_30 (by decide) rfl ?_
    refine rx_s (L2 := [some (.ref 51), some (.int a1), some (.int a2), some (.int 0)]) (pc2 := 32) op86_31 rfl rfl rfl ?_
    obtain ⟨m18, f23, h⟩ := rq_bind h
    refine se_noteLess_l32_ok xs hd (fun m0 eq => ?_) _ _ _  f23
    subst eq
    try dsimp only at h
    intro o19 o20 o21 o22
    obtain rfl := Option.some.inj h
    exact ry_rv op86_79 ms_86 rfl
/-! ga_previous -/
theorem op87_0 : rn_op 87 0 = some (.iload_n 1, 1, 0, 0, 0) := by decide +kernel
theorem op87_1 : rn_op 87 1 = some (.ifCond .le 9, 3, 0, 0, 0) := by decide +kernel
theorem op87_4 : rn_op 87 4 = some (.iload_n 1, 1, 0, 0, 0) := by decide +kernel
theorem op87_5 : rn_op 87 5 = some (.iconst 1, 1, 0, 0, 0) := by decide +kernel
theorem op87_6 : rn_op 87 6 = some (.isub, 1, 0, 0, 0) := by decide +kernel
theorem op87_7 : rn_op 87 7 = some (.goto 9, 3, 0, 0, 0) := by decide +kernel
theorem op87_10 : rn_op 87 10 = some (.aload_n 0, 1, 0, 0, 0) := by decide +kernel
theorem op87_11 : rn_op 87 11 = some (.getfield 9, 3, 1, 1, 0) := by decide +kernel
theorem op87_14 : rn_op 87 14 = some (.iconst 1, 1, 0, 0, 0) := by decide +kernel
theorem op87_15 : rn_op 87 15 = some (.isub, 1, 0, 0, 0) := by decide +kernel
theorem op87_16 : rn_op 87 16 = some (.ireturn, 1, 0, 0, 0) := by decide +kernel
def ga_previous (n : Nat) (q0 : Nat) (a1 : Int32) (m : rn_Mem) : Option (Int32 × rn_Mem) :=
  if 0 < a1 then
    some (a1 - 1, m)
  else
    some ((m.1 q0 1) - 1, m)
set_option maxHeartbeats 4000000 in
set_option maxRecDepth 20000 in
theorem ga_previous_ok (xs : List Int32) {d : Nat} (hd : 0 ≤ d) {n : Nat} {q0 : Nat} {a1 : Int32} {m mO : rn_Mem} {rO : Int32} (hq0 : sA_Game q0) (h : ga_previous n q0 a1 m = some (rO, mO)) : rn_R xs d 87 0 (rn_ent 2 [.ref q0, .int a1]) [] (rn_SH, m) (some (.int rO)) (rn_SH, mO) := by
  unfold ga_previous at h
  show rn_R xs d 87 0 [some (.ref q0), some (.int a1)] [] (rn_SH, m) (some (.int rO)) (rn_SH, mO)
  refine rx_p (L2 := [some (.ref q0), some (.int a1)]) (S2 := [.int a1]) (pc2 := 1) op87_0 rfl rfl ?_
  refine ry_if_le (tgt := 10) (pc2 := 4) op87_1 (by decide) (by decide) rfl (fun b1 => ?_) (fun b1 => ?_)
  · have h := (if_pos b1).symm.trans h
    refine rx_p (L2 := [some (.ref q0), some (.int a1)]) (S2 := [.int a1]) (pc2 := 5) op87_4 rfl rfl ?_
    refine rx_ic (v := 1) (pc2 := 6) op87_5 (by decide) rfl ?_
    refine rx_p (L2 := [some (.ref q0), some (.int a1)]) (S2 := [.int (a1 - 1)]) (pc2 := 7) op87_6 rfl rfl ?_
    refine ry_go (tgt := 16) op87_7 (by decide) (by decide) ?_
    obtain ⟨rfl, rfl⟩ := rq_ret h
    exact ry_ri op87_16 ms_87 rfl
  · have h := (if_neg b1).symm.trans h
    refine rx_p (L2 := [some (.ref q0), some (.int a1)]) (S2 := [.ref q0]) (pc2 := 11) op87_10 rfl rfl ?_
    refine rx_gf (v := .int (m.1 q0 1)) (pc2 := 14) op87_11 hq0 rfl rfl rfl ?_
    refine rx_ic (v := 1) (pc2 := 15) op87_14 (by decide) rfl ?_
    refine rx_p (L2 := [some (.ref q0), some (.int a1)]) (S2 := [.int ((m.1 q0 1) - 1)]) (pc2 := 16) op87_15 rfl rfl ?_
    obtain ⟨rfl, rfl⟩ := rq_ret h
    exact ry_ri op87_16 ms_87 rfl
/-! se_layTrick -/
theorem op77_0 : rn_op 77 0 = some (.iload_n 2, 1, 0, 0, 0) := by decide +kernel
theorem op77_1 : rn_op 77 1 = some (.iconst 4, 1, 0, 0, 0) := by decide +kernel
theorem op77_2 : rn_op 77 2 = some (.if_icmp .lt 4, 3, 0, 0, 0) := by decide +kernel
theorem op77_5 : rn_op 77 5 = some (.return_, 1, 0, 0, 0) := by decide +kernel
theorem op77_6 : rn_op 77 6 = some (.aload_n 0, 1, 0, 0, 0) := by decide +kernel
theorem op77_7 : rn_op 77 7 = some (.getfield 34, 3, 4, 3, 3) := by decide +kernel
theorem op77_10 : rn_op 77 10 = some (.iload_n 2, 1, 0, 0, 0) := by decide +kernel
theorem op77_11 : rn_op 77 11 = some (.aaload, 1, 0, 0, 0) := by decide +kernel
theorem op77_12 : rn_op 77 12 = some (.astore 8, 2, 0, 0, 0) := by decide +kernel
theorem op77_14 : rn_op 77 14 = some (.iconst 0, 1, 0, 0, 0) := by decide +kernel
theorem op77_15 : rn_op 77 15 = some (.istore 9, 2, 0, 0, 0) := by decide +kernel
theorem op77_17 : rn_op 77 17 = some (.iload 9, 2, 0, 0, 0) := by decide +kernel
theorem op77_19 : rn_op 77 19 = some (.aload 8, 2, 0, 0, 0) := by decide +kernel
theorem op77_21 : rn_op 77 21 = some (.getfield 200, 3, 9, 2, 0) := by decide +kernel
theorem op77_24 : rn_op 77 24 = some (.if_icmp .ge 282, 3, 0, 0, 0) := by decide +kernel
theorem op77_27 : rn_op 77 27 = some (.aload 8, 2, 0, 0, 0) := by decide +kernel
theorem op77_29 : rn_op 77 29 = some (.getfield 202, 3, 9, 3, 3) := by decide +kernel
theorem op77_32 : rn_op 77 32 = some (.iload 9, 2, 0, 0, 0) := by decide +kernel
theorem op77_34 : rn_op 77 34 = some (.iaload, 1, 0, 0, 0) := by decide +kernel
theorem op77_35 : rn_op 77 35 = some (.istore 10, 2, 0, 0, 0) := by decide +kernel
theorem op77_37 : rn_op 77 37 = some (.iload 4, 2, 0, 0, 0) := by decide +kernel
theorem op77_39 : rn_op 77 39 = some (.aload 8, 2, 0, 0, 0) := by decide +kernel
theorem op77_41 : rn_op 77 41 = some (.getfield 205, 3, 9, 4, 3) := by decide +kernel
theorem op77_44 : rn_op 77 44 = some (.iload 9, 2, 0, 0, 0) := by decide +kernel
theorem op77_46 : rn_op 77 46 = some (.iaload, 1, 0, 0, 0) := by decide +kernel
theorem op77_47 : rn_op 77 47 = some (.iand, 1, 0, 0, 0) := by decide +kernel
theorem op77_48 : rn_op 77 48 = some (.invokestatic 208, 3, 78, 1, 0) := by decide +kernel
theorem op77_51 : rn_op 77 51 = some (.istore 11, 2, 0, 0, 0) := by decide +kernel
theorem op77_53 : rn_op 77 53 = some (.aload_n 0, 1, 0, 0, 0) := by decide +kernel
theorem op77_54 : rn_op 77 54 = some (.iload_n 1, 1, 0, 0, 0) := by decide +kernel
theorem op77_55 : rn_op 77 55 = some (.iload 10, 2, 0, 0, 0) := by decide +kernel
theorem op77_57 : rn_op 77 57 = some (.iload_n 3, 1, 0, 0, 0) := by decide +kernel
theorem op77_58 : rn_op 77 58 = some (.invokevirtual 211, 3, 79, 4, 4) := by decide +kernel
theorem op77_61 : rn_op 77 61 = some (.ifCond .eq 239, 3, 0, 0, 0) := by decide +kernel
theorem op77_64 : rn_op 77 64 = some (.iload 11, 2, 0, 0, 0) := by decide +kernel
theorem op77_66 : rn_op 77 66 = some (.ifCond .eq 14, 3, 0, 0, 0) := by decide +kernel
theorem op77_69 : rn_op 77 69 = some (.aload_n 0, 1, 0, 0, 0) := by decide +kernel
theorem op77_70 : rn_op 77 70 = some (.getfield 76, 3, 4, 10, 0) := by decide +kernel
theorem op77_73 : rn_op 77 73 = some (.iconst 2, 1, 0, 0, 0) := by decide +kernel
theorem op77_74 : rn_op 77 74 = some (.if_icmp .eq 6, 3, 0, 0, 0) := by decide +kernel
theorem op77_77 : rn_op 77 77 = some (.goto 223, 3, 0, 0, 0) := by decide +kernel
theorem op77_80 : rn_op 77 80 = some (.iload 5, 2, 0, 0, 0) := by decide +kernel
theorem op77_82 : rn_op 77 82 = some (.iload 11, 2, 0, 0, 0) := by decide +kernel
theorem op77_84 : rn_op 77 84 = some (.invokestatic 215, 3, 80, 1, 0) := by decide +kernel
theorem op77_87 : rn_op 77 87 = some (.iadd, 1, 0, 0, 0) := by decide +kernel
theorem op77_88 : rn_op 77 88 = some (.istore 12, 2, 0, 0, 0) := by decide +kernel
theorem op77_90 : rn_op 77 90 = some (.iload 4, 2, 0, 0, 0) := by decide +kernel
theorem op77_92 : rn_op 77 92 = some (.aload 8, 2, 0, 0, 0) := by decide +kernel
theorem op77_94 : rn_op 77 94 = some (.getfield 220, 3, 9, 5, 3) := by decide +kernel
theorem op77_97 : rn_op 77 97 = some (.iload 9, 2, 0, 0, 0) := by decide +kernel
theorem op77_99 : rn_op 77 99 = some (.iaload, 1, 0, 0, 0) := by decide +kernel
theorem op77_100 : rn_op 77 100 = some (.ior, 1, 0, 0, 0) := by decide +kernel
theorem op77_101 : rn_op 77 101 = some (.istore 13, 2, 0, 0, 0) := by decide +kernel
theorem op77_103 : rn_op 77 103 = some (.iload 7, 2, 0, 0, 0) := by decide +kernel
theorem op77_105 : rn_op 77 105 = some (.aload 8, 2, 0, 0, 0) := by decide +kernel
theorem op77_107 : rn_op 77 107 = some (.getfield 223, 3, 9, 6, 3) := by decide +kernel
theorem op77_110 : rn_op 77 110 = some (.iload 9, 2, 0, 0, 0) := by decide +kernel
theorem op77_112 : rn_op 77 112 = some (.iaload, 1, 0, 0, 0) := by decide +kernel
theorem op77_113 : rn_op 77 113 = some (.ior, 1, 0, 0, 0) := by decide +kernel
theorem op77_114 : rn_op 77 114 = some (.aload_n 0, 1, 0, 0, 0) := by decide +kernel
theorem op77_115 : rn_op 77 115 = some (.getfield 28, 3, 4, 2, 3) := by decide +kernel
theorem op77_118 : rn_op 77 118 = some (.iload_n 1, 1, 0, 0, 0) := by decide +kernel
theorem op77_119 : rn_op 77 119 = some (.iload 10, 2, 0, 0, 0) := by decide +kernel
theorem op77_121 : rn_op 77 121 = some (.aload 8, 2, 0, 0, 0) := by decide +kernel
theorem op77_123 : rn_op 77 123 = some (.getfield 183, 3, 9, 1, 0) := by decide +kernel
theorem op77_126 : rn_op 77 126 = some (.aload_n 0, 1, 0, 0, 0) := by decide +kernel
theorem op77_127 : rn_op 77 127 = some (.getfield 173, 3, 4, 9, 0) := by decide +kernel
theorem op77_130 : rn_op 77 130 = some (.iload 13, 2, 0, 0, 0) := by decide +kernel
theorem op77_132 : rn_op 77 132 = some (.invokevirtual 226, 3, 81, 6, 0) := by decide +kernel
theorem op77_135 : rn_op 77 135 = some (.ior, 1, 0, 0, 0) := by decide +kernel
theorem op77_136 : rn_op 77 136 = some (.istore 14, 2, 0, 0, 0) := by decide +kernel
theorem op77_138 : rn_op 77 138 = some (.aload_n 0, 1, 0, 0, 0) := by decide +kernel
theorem op77_139 : rn_op 77 139 = some (.getfield 76, 3, 4, 10, 0) := by decide +kernel
theorem op77_142 : rn_op 77 142 = some (.iconst 1, 1, 0, 0, 0) := by decide +kernel
theorem op77_143 : rn_op 77 143 = some (.if_icmp .ne 11, 3, 0, 0, 0) := by decide +kernel
theorem op77_146 : rn_op 77 146 = some (.iload 14, 2, 0, 0, 0) := by decide +kernel
theorem op77_148 : rn_op 77 148 = some (.invokestatic 230, 3, 82, 1, 0) := by decide +kernel
theorem op77_151 : rn_op 77 151 = some (.goto 5, 3, 0, 0, 0) := by decide +kernel
theorem op77_154 : rn_op 77 154 = some (.iload 12, 2, 0, 0, 0) := by decide +kernel
theorem op77_156 : rn_op 77 156 = some (.istore 15, 2, 0, 0, 0) := by decide +kernel
theorem op77_158 : rn_op 77 158 = some (.aload_n 0, 1, 0, 0, 0) := by decide +kernel
theorem op77_159 : rn_op 77 159 = some (.iload 15, 2, 0, 0, 0) := by decide +kernel
theorem op77_161 : rn_op 77 161 = some (.iload 6, 2, 0, 0, 0) := by decide +kernel
theorem op77_163 : rn_op 77 163 = some (.iload 11, 2, 0, 0, 0) := by decide +kernel
theorem op77_165 : rn_op 77 165 = some (.ior, 1, 0, 0, 0) := by decide +kernel
theorem op77_166 : rn_op 77 166 = some (.iload 14, 2, 0, 0, 0) := by decide +kernel
theorem op77_168 : rn_op 77 168 = some (.invokevirtual 233, 3, 83, 4, 4) := by decide +kernel
theorem op77_171 : rn_op 77 171 = some (.ifCond .ne 6, 3, 0, 0, 0) := by decide +kernel
theorem op77_174 : rn_op 77 174 = some (.goto 126, 3, 0, 0, 0) := by decide +kernel
theorem op77_177 : rn_op 77 177 = some (.aload_n 0, 1, 0, 0, 0) := by decide +kernel
theorem op77_178 : rn_op 77 178 = some (.getfield 51, 3, 4, 8, 3) := by decide +kernel
theorem op77_181 : rn_op 77 181 = some (.iload_n 1, 1, 0, 0, 0) := by decide +kernel
theorem op77_182 : rn_op 77 182 = some (.iload_n 2, 1, 0, 0, 0) := by decide +kernel
theorem op77_183 : rn_op 77 183 = some (.bipush 24, 2, 0, 0, 0) := by decide +kernel
theorem op77_185 : rn_op 77 185 = some (.imul, 1, 0, 0, 0) := by decide +kernel
theorem op77_186 : rn_op 77 186 = some (.iload 9, 2, 0, 0, 0) := by decide +kernel
theorem op77_188 : rn_op 77 188 = some (.iadd, 1, 0, 0, 0) := by decide +kernel
theorem op77_189 : rn_op 77 189 = some (.iastore, 1, 0, 0, 0) := by decide +kernel
theorem op77_190 : rn_op 77 190 = some (.iload_n 1, 1, 0, 0, 0) := by decide +kernel
theorem op77_191 : rn_op 77 191 = some (.ifCond .ne 19, 3, 0, 0, 0) := by decide +kernel
theorem op77_194 : rn_op 77 194 = some (.aload_n 0, 1, 0, 0, 0) := by decide +kernel
theorem op77_195 : rn_op 77 195 = some (.getfield 76, 3, 4, 10, 0) := by decide +kernel
theorem op77_198 : rn_op 77 198 = some (.ifCond .ne 12, 3, 0, 0, 0) := by decide +kernel
theorem op77_201 : rn_op 77 201 = some (.aload_n 0, 1, 0, 0, 0) := by decide +kernel
theorem op77_202 : rn_op 77 202 = some (.iload 10, 2, 0, 0, 0) := by decide +kernel
theorem op77_204 : rn_op 77 204 = some (.invokevirtual 236, 3, 84, 2, 4) := by decide +kernel
theorem op77_207 : rn_op 77 207 = some (.goto 93, 3, 0, 0, 0) := by decide +kernel
theorem op77_210 : rn_op 77 210 = some (.iload_n 1, 1, 0, 0, 0) := by decide +kernel
theorem op77_211 : rn_op 77 211 = some (.ifCond .ne 17, 3, 0, 0, 0) := by decide +kernel
theorem op77_214 : rn_op 77 214 = some (.aload_n 0, 1, 0, 0, 0) := by decide +kernel
theorem op77_215 : rn_op 77 215 = some (.iload 15, 2, 0, 0, 0) := by decide +kernel
theorem op77_217 : rn_op 77 217 = some (.iload 6, 2, 0, 0, 0) := by decide +kernel
theorem op77_219 : rn_op 77 219 = some (.iload 11, 2, 0, 0, 0) := by decide +kernel
theorem op77_221 : rn_op 77 221 = some (.ior, 1, 0, 0, 0) := by decide +kernel
theorem op77_222 : rn_op 77 222 = some (.invokevirtual 239, 3, 86, 3, 4) := by decide +kernel
theorem op77_225 : rn_op 77 225 = some (.goto 75, 3, 0, 0, 0) := by decide +kernel
theorem op77_228 : rn_op 77 228 = some (.aload_n 0, 1, 0, 0, 0) := by decide +kernel
theorem op77_229 : rn_op 77 229 = some (.dup, 1, 0, 0, 0) := by decide +kernel
theorem op77_230 : rn_op 77 230 = some (.getfield 173, 3, 4, 9, 0) := by decide +kernel
theorem op77_233 : rn_op 77 233 = some (.aload 8, 2, 0, 0, 0) := by decide +kernel
theorem op77_235 : rn_op 77 235 = some (.getfield 183, 3, 9, 1, 0) := by decide +kernel
theorem op77_238 : rn_op 77 238 = some (.ior, 1, 0, 0, 0) := by decide +kernel
theorem op77_239 : rn_op 77 239 = some (.putfield 173, 3, 4, 9, 0) := by decide +kernel
theorem op77_242 : rn_op 77 242 = some (.aload_n 0, 1, 0, 0, 0) := by decide +kernel
theorem op77_243 : rn_op 77 243 = some (.iload_n 1, 1, 0, 0, 0) := by decide +kernel
theorem op77_244 : rn_op 77 244 = some (.iconst 1, 1, 0, 0, 0) := by decide +kernel
theorem op77_245 : rn_op 77 245 = some (.isub, 1, 0, 0, 0) := by decide +kernel
theorem op77_246 : rn_op 77 246 = some (.aload_n 0, 1, 0, 0, 0) := by decide +kernel
theorem op77_247 : rn_op 77 247 = some (.getfield 12, 3, 4, 0, 3) := by decide +kernel
theorem op77_250 : rn_op 77 250 = some (.getfield 156, 3, 1, 6, 0) := by decide +kernel
theorem op77_253 : rn_op 77 253 = some (.ifCond .ne 8, 3, 0, 0, 0) := by decide +kernel
theorem op77_256 : rn_op 77 256 = some (.iload 10, 2, 0, 0, 0) := by decide +kernel
theorem op77_258 : rn_op 77 258 = some (.goto 12, 3, 0, 0, 0) := by decide +kernel
theorem op77_261 : rn_op 77 261 = some (.aload_n 0, 1, 0, 0, 0) := by decide +kernel
theorem op77_262 : rn_op 77 262 = some (.getfield 12, 3, 4, 0, 3) := by decide +kernel
theorem op77_265 : rn_op 77 265 = some (.iload 10, 2, 0, 0, 0) := by decide +kernel
theorem op77_267 : rn_op 77 267 = some (.invokevirtual 243, 3, 87, 2, 1) := by decide +kernel
theorem op77_270 : rn_op 77 270 = some (.iload 13, 2, 0, 0, 0) := by decide +kernel
theorem op77_272 : rn_op 77 272 = some (.iload 12, 2, 0, 0, 0) := by decide +kernel
theorem op77_274 : rn_op 77 274 = some (.iload 6, 2, 0, 0, 0) := by decide +kernel
theorem op77_276 : rn_op 77 276 = some (.iload 11, 2, 0, 0, 0) := by decide +kernel
theorem op77_278 : rn_op 77 278 = some (.ior, 1, 0, 0, 0) := by decide +kernel
theorem op77_279 : rn_op 77 279 = some (.iload 14, 2, 0, 0, 0) := by decide +kernel
theorem op77_281 : rn_op 77 281 = some (.invokevirtual 136, 3, 76, 7, 4) := by decide +kernel
theorem op77_284 : rn_op 77 284 = some (.aload_n 0, 1, 0, 0, 0) := by decide +kernel
theorem op77_285 : rn_op 77 285 = some (.dup, 1, 0, 0, 0) := by decide +kernel
theorem op77_286 : rn_op 77 286 = some (.getfield 173, 3, 4, 9, 0) := by decide +kernel
theorem op77_289 : rn_op 77 289 = some (.aload 8, 2, 0, 0, 0) := by decide +kernel
theorem op77_291 : rn_op 77 291 = some (.getfield 183, 3, 9, 1, 0) := by decide +kernel
theorem op77_294 : rn_op 77 294 = some (.iconst (-1), 1, 0, 0, 0) := by decide +kernel
theorem op77_295 : rn_op 77 295 = some (.ixor, 1, 0, 0, 0) := by decide +kernel
theorem op77_296 : rn_op 77 296 = some (.iand, 1, 0, 0, 0) := by decide +kernel
theorem op77_297 : rn_op 77 297 = some (.putfield 173, 3, 4, 9, 0) := by decide +kernel
theorem op77_300 : rn_op 77 300 = some (.iinc 9 1, 3, 0, 0, 0) := by decide +kernel
theorem op77_303 : rn_op 77 303 = some (.goto (-286), 3, 0, 0, 0) := by decide +kernel
theorem op77_306 : rn_op 77 306 = some (.return_, 1, 0, 0, 0) := by decide +kernel
def se_layTrick_l17 (rec : Int32 → Int32 → Int32 → Int32 → Int32 → Int32 → rn_Mem → Option (rn_Mem)) (a1 : Int32) (a2 : Int32) (a3 : Int32) (a4 : Int32) (a5 : Int32) (a6 : Int32) (a7 : Int32) (q8 : Nat) : Nat → Int32 → rn_Mem → Option (rn_Mem)
  | 0, _, _ => none
  | n + 1, a9, m =>
    if a9 < (m.1 q8 2) then
      if rn_in a9 24 = true then
        (some (m.1 (q8 + 1) a9.toNatClampNeg)).bind fun (x5 : Int32) =>
        if rn_in a9 24 = true then
          (se_chairsIn n (a4 &&& (m.1 (q8 + 2) a9.toNatClampNeg)) m).bind fun (r8, m7) =>
          (se_mayLead n a1 x5 a3 m7).bind fun (r11, m10) =>
          (show Option (rn_Mem) from
            if r11 = 0 then
              some (m10)
            else
              if r8 = 0 then
                (ja_bitCount n r8 m10).bind fun (r16, m15) =>
                (some (a5 + r16)).bind fun (x18 : Int32) =>
                if rn_in a9 24 = true then
                  (some (a4 ||| (m15.1 (q8 + 3) a9.toNatClampNeg))).bind fun (x20 : Int32) =>
                  if rn_in a9 24 = true then
                    (cl_againstTrick n 57 a1 x5 (m15.1 q8 1) (m15.1 51 9) x20 m15).bind fun (r23, m22) =>
                    (some ((a7 ||| (m15.1 (q8 + 4) a9.toNatClampNeg)) ||| r23)).bind fun (x25 : Int32) =>
                    (show Option (Int32 × rn_Mem) from
                      if (m22.1 51 10) = 1 then
                        (se_rankOf n x25 m22).bind fun (r28, m27) =>
                        some (r28, m27)
                      else
                        some (x18, m22)).bind fun (x31, m32) =>
                    (se_promises n x31 (a6 ||| r8) x25 m32).bind fun (r34, m33) =>
                    if r34 = 0 then
                      some (m33)
                    else
                      if rn_in a1 4 = true then
                        (some (rm_i m33 67 a1.toNatClampNeg ((a2 * 24) + a9))).bind fun (m37 : rn_Mem) =>
                        if a1 = 0 then
                          if (m37.1 51 10) = 0 then
                            (se_notePlay n x5 m37).bind fun m41 =>
                            some (m41)
                          else
                            if a1 = 0 then
                              (se_noteLess n x31 (a6 ||| r8) m37).bind fun m44 =>
                              some (m44)
                            else
                              (some (rm_i m37 51 9 ((m37.1 51 9) ||| (m37.1 q8 1)))).bind fun (m46 : rn_Mem) =>
                              (show Option (Int32 × rn_Mem) from
                                if (m46.1 52 6) = 0 then
                                  some (x5, m46)
                                else
                                  (ga_previous n 52 x5 m46).bind fun (r49, m48) =>
                                  some (r49, m48)).bind fun (x53, m54) =>
                              (rec (a1 - 1) x53 x20 x18 (a6 ||| r8) x25 m54).bind fun m55 =>
                              (some (rm_i m55 51 9 ((m55.1 51 9) &&& ((m55.1 q8 1) ^^^ (-1))))).bind fun (m57 : rn_Mem) =>
                              some (m57)
                        else
                          if a1 = 0 then
                            (se_noteLess n x31 (a6 ||| r8) m37).bind fun m60 =>
                            some (m60)
                          else
                            (some (rm_i m37 51 9 ((m37.1 51 9) ||| (m37.1 q8 1)))).bind fun (m62 : rn_Mem) =>
                            (show Option (Int32 × rn_Mem) from
                              if (m62.1 52 6) = 0 then
                                some (x5, m62)
                              else
                                (ga_previous n 52 x5 m62).bind fun (r65, m64) =>
                                some (r65, m64)).bind fun (x69, m70) =>
                            (rec (a1 - 1) x69 x20 x18 (a6 ||| r8) x25 m70).bind fun m71 =>
                            (some (rm_i m71 51 9 ((m71.1 51 9) &&& ((m71.1 q8 1) ^^^ (-1))))).bind fun (m73 : rn_Mem) =>
                            some (m73)
                      else none
                  else none
                else none
              else
                if (m10.1 51 10) = 2 then
                  (ja_bitCount n r8 m10).bind fun (r78, m77) =>
                  (some (a5 + r78)).bind fun (x80 : Int32) =>
                  if rn_in a9 24 = true then
                    (some (a4 ||| (m77.1 (q8 + 3) a9.toNatClampNeg))).bind fun (x82 : Int32) =>
                    if rn_in a9 24 = true then
                      (cl_againstTrick n 57 a1 x5 (m77.1 q8 1) (m77.1 51 9) x82 m77).bind fun (r85, m84) =>
                      (some ((a7 ||| (m77.1 (q8 + 4) a9.toNatClampNeg)) ||| r85)).bind fun (x87 : Int32) =>
                      (show Option (Int32 × rn_Mem) from
                        if (m84.1 51 10) = 1 then
                          (se_rankOf n x87 m84).bind fun (r90, m89) =>
                          some (r90, m89)
                        else
                          some (x80, m84)).bind fun (x93, m94) =>
                      (se_promises n x93 (a6 ||| r8) x87 m94).bind fun (r96, m95) =>
                      if r96 = 0 then
                        some (m95)
                      else
                        if rn_in a1 4 = true then
                          (some (rm_i m95 67 a1.toNatClampNeg ((a2 * 24) + a9))).bind fun (m99 : rn_Mem) =>
                          if a1 = 0 then
                            if (m99.1 51 10) = 0 then
                              (se_notePlay n x5 m99).bind fun m103 =>
                              some (m103)
                            else
                              if a1 = 0 then
                                (se_noteLess n x93 (a6 ||| r8) m99).bind fun m106 =>
                                some (m106)
                              else
                                (some (rm_i m99 51 9 ((m99.1 51 9) ||| (m99.1 q8 1)))).bind fun (m108 : rn_Mem) =>
                                (show Option (Int32 × rn_Mem) from
                                  if (m108.1 52 6) = 0 then
                                    some (x5, m108)
                                  else
                                    (ga_previous n 52 x5 m108).bind fun (r111, m110) =>
                                    some (r111, m110)).bind fun (x115, m116) =>
                                (rec (a1 - 1) x115 x82 x80 (a6 ||| r8) x87 m116).bind fun m117 =>
                                (some (rm_i m117 51 9 ((m117.1 51 9) &&& ((m117.1 q8 1) ^^^ (-1))))).bind fun (m119 : rn_Mem) =>
                                some (m119)
                          else
                            if a1 = 0 then
                              (se_noteLess n x93 (a6 ||| r8) m99).bind fun m122 =>
                              some (m122)
                            else
                              (some (rm_i m99 51 9 ((m99.1 51 9) ||| (m99.1 q8 1)))).bind fun (m124 : rn_Mem) =>
                              (show Option (Int32 × rn_Mem) from
                                if (m124.1 52 6) = 0 then
                                  some (x5, m124)
                                else
                                  (ga_previous n 52 x5 m124).bind fun (r127, m126) =>
                                  some (r127, m126)).bind fun (x131, m132) =>
                              (rec (a1 - 1) x131 x82 x80 (a6 ||| r8) x87 m132).bind fun m133 =>
                              (some (rm_i m133 51 9 ((m133.1 51 9) &&& ((m133.1 q8 1) ^^^ (-1))))).bind fun (m135 : rn_Mem) =>
                              some (m135)
                        else none
                    else none
                  else none
                else
                  some (m10)).bind fun m144 =>
          (some (a9 + 1)).bind fun (x145 : Int32) =>
          se_layTrick_l17 rec a1 a2 a3 a4 a5 a6 a7 q8 n x145 m144
        else none
      else none
    else
      some m
def se_layTrick (rec : Int32 → Int32 → Int32 → Int32 → Int32 → Int32 → rn_Mem → Option (rn_Mem)) (n : Nat) (a1 : Int32) (a2 : Int32) (a3 : Int32) (a4 : Int32) (a5 : Int32) (a6 : Int32) (a7 : Int32) (m : rn_Mem) : Option (rn_Mem) :=
  if a2 < 4 then
    if rn_in a2 4 = true then
      (se_layTrick_l17 rec a1 a2 a3 a4 a5 a6 a7 (70 + 8 * a2.toNatClampNeg) n 0 m).bind fun m147 =>
      some m147
    else none
  else
    some m
set_option maxHeartbeats 4000000 in
set_option maxRecDepth 20000 in
theorem se_layTrick_l17_ok (xs : List Int32) {d : Nat} (hd : 3 ≤ d) {rec : Int32 → Int32 → Int32 → Int32 → Int32 → Int32 → rn_Mem → Option (rn_Mem)} (hrec : ∀ {a1 : Int32} {a2 : Int32} {a3 : Int32} {a4 : Int32} {a5 : Int32} {a6 : Int32} {mI mO : rn_Mem} , rec a1 a2 a3 a4 a5 a6 mI = some mO → rn_R xs d 76 0 (rn_ent 8 [.ref 51, .int a1, .int a2, .int a3, .int a4, .int a5, .int a6]) [] (rn_SH, mI) none (rn_SH, mO)) {a1 : Int32} {a2 : Int32} {a3 : Int32} {a4 : Int32} {a5 : Int32} {a6 : Int32} {a7 : Int32} {q8 : Nat} {r : Option Value} {τ : rn_H} {out : rn_Mem} (hr : ∀ (mO : rn_Mem), out = mO → ∀ (o0 o1 o2 o3 o4 o5 o6 o7 o8 o9 o10 o11 o12 o13 o14 o15 : Option Value), rn_R xs (d + 1) 77 306 [o0, o1, o2, o3, o4, o5, o6, o7, o8, o9, o10, o11, o12, o13, o14, o15] [] (rn_SH, mO) r τ) : ∀ (n : Nat) (a9 : Int32) (o10 o11 o12 o13 o14 o15 : Option Value) (m : rn_Mem), sA_Ways q8 → se_layTrick_l17 rec a1 a2 a3 a4 a5 a6 a7 q8 n a9 m = some out → rn_R xs (d + 1) 77 17 [some (.ref 51), some (.int a1), some (.int a2), some (.int a3), some (.int a4), some (.int a5), some (.int a6), some (.int a7), some (.ref q8), some (.int a9), o10, o11, o12, o13, o14, o15] [] (rn_SH, m) r τ := by
  intro n
  induction n with
  | zero =>
    intro _ _ _ _ _ _ _ _ _ h
    cases h
  | succ n ih =>
    intro a9 o10 o11 o12 o13 o14 o15 m hq8 h
    unfold se_layTrick_l17 at h
    try dsimp only at h
    refine rx_p (L2 := [some (.ref 51), some (.int a1), some (.int a2), some (.int a3), some (.int a4), some (.int a5), some (.int a6), some (.int a7), some (.ref q8), some (.int a9), o10, o11, o12, o13, o14, o15]) (S2 := [.int a9]) (pc2 := 19) op77_17 rfl rfl ?_
    refine rx_p (L2 := [some (.ref 51), some (.int a1), some (.int a2), some (.int a3), some (.int a4), some (.int a5), some (.int a6), some (.int a7), some (.ref q8), some (.int a9), o10, o11, o12, o13, o14, o15]) (S2 := [.ref q8, .int a9]) (pc2 := 21) op77_19 rfl rfl ?_
    refine rx_gf (v := .int (m.1 q8 2)) (pc2 := 24) op77_21 (hq8.1) rfl rfl rfl ?_
    refine ry_ic_ge (tgt := 306) (pc2 := 27) op77_24 (by decide) (by decide) rfl (fun b3 => ?_) (fun b3 => ?_)
    · have h := (if_pos b3).symm.trans h
      refine rx_p (L2 := [some (.ref 51), some (.int a1), some (.int a2), some (.int a3), some (.int a4), some (.int a5), some (.int a6), some (.int a7), some (.ref q8), some (.int a9), o10, o11, o12, o13, o14, o15]) (S2 := [.ref q8]) (pc2 := 29) op77_27 rfl rfl ?_
      refine rx_gf (v := .ref (q8 + 1)) (pc2 := 32) op77_29 (hq8.1) rfl rfl rfl ?_
      refine rx_p (L2 := [some (.ref 51), some (.int a1), some (.int a2), some (.int a3), some (.int a4), some (.int a5), some (.int a6), some (.int a7), some (.ref q8), some (.int a9), o10, o11, o12, o13, o14, o15]) (S2 := [.int a9, .ref (q8 + 1)]) (pc2 := 34) op77_32 rfl rfl ?_
      obtain ⟨k4, h⟩ := rq_chk h
      refine rx_ia (pc2 := 35) op77_34 (rn_shlt (hq8.2.1)) (hq8.2.1) k4 rfl rfl ?_
      obtain ⟨x5, ex5, h⟩ := rq_bv h
      refine rx_s (v := x5) (L2 := [some (.ref 51), some (.int a1), some (.int a2), some (.int a3), some (.int a4), some (.int a5), some (.int a6), some (.int a7), some (.ref q8), some (.int a9), some (.int x5), o11, o12, o13, o14, o15]) (pc2 := 37) op77_35 ex5 rfl rfl ?_
      refine rx_p (L2 := [some (.ref 51), some (.int a1), some (.int a2), some (.int a3), some (.int a4), some (.int a5), some (.int a6), some (.int a7), some (.ref q8), some (.int a9), some (.int x5), o11, o12, o13, o14, o15]) (S2 := [.int a4]) (pc2 := 39) op77_37 rfl rfl ?_
      refine rx_p (L2 := [some (.ref 51), some (.int a1), some (.int a2), some (.int a3), some (.int a4), some (.int a5), some (.int a6), some (.int a7), some (.ref q8), some (.int a9), some (.int x5), o11, o12, o13, o14, o15]) (S2 := [.ref q8, .int a4]) (pc2 := 41) op77_39 rfl rfl ?_
      refine rx_gf (v := .ref (q8 + 2)) (pc2 := 44) op77_41 (hq8.1) rfl rfl rfl ?_
      refine rx_p (L2 := [some (.ref 51), some (.int a1), some (.int a2), some (.int a3), some (.int a4), some (.int a5), some (.int a6), some (.int a7), some (.ref q8), some (.int a9), some (.int x5), o11, o12, o13, o14, o15]) (S2 := [.int a9, .ref (q8 + 2), .int a4]) (pc2 := 46) op77_44 rfl rfl ?_
      obtain ⟨k6, h⟩ := rq_chk h
      refine rx_ia (pc2 := 47) op77_46 (rn_shlt (hq8.2.2.1)) (hq8.2.2.1) k6 rfl rfl ?_
      refine rx_p (L2 := [some (.ref 51), some (.int a1), some (.int a2), some (.int a3), some (.int a4), some (.int a5), some (.int a6), some (.int a7), some (.ref q8), some (.int a9), some (.int x5), o11, o12, o13, o14, o15]) (S2 := [.int (a4 &&& (m.1 (q8 + 2) a9.toNatClampNeg))]) (pc2 := 48) op77_47 rfl rfl ?_
      obtain ⟨⟨r8, m7⟩, f9, h⟩ := rq_bind h
      try dsimp only at h
      refine ry_is (vs := [.int (a4 &&& (m.1 (q8 + 2) a9.toNatClampNeg))]) (T := []) (pc2 := 51) op77_48 (by decide) ms_78 (by decide) rfl rfl (Nat.le_of_ble_eq_true rfl) (Nat.le_of_ble_eq_true rfl) (se_chairsIn_ok xs (by omega)  f9) rfl ?_
      show rn_R _ _ _ _ _ [.int r8] _ _ _
      refine rx_s (L2 := [some (.ref 51), some (.int a1), some (.int a2), some (.int a3), some (.int a4), some (.int a5), some (.int a6), some (.int a7), some (.ref q8), some (.int a9), some (.int x5), some (.int r8), o12, o13, o14, o15]) (pc2 := 53) op77_51 rfl rfl rfl ?_
      refine rx_p (L2 := [some (.ref 51), some (.int a1), some (.int a2), some (.int a3), some (.int a4), some (.int a5), some (.int a6), some (.int a7), some (.ref q8), some (.int a9), some (.int x5), some (.int r8), o12, o13, o14, o15]) (S2 := [.ref 51]) (pc2 := 54) op77_53 rfl rfl ?_
      refine rx_p (L2 := [some (.ref 51), some (.int a1), some (.int a2), some (.int a3), some (.int a4), some (.int a5), some (.int a6), some (.int a7), some (.ref q8), some (.int a9), some (.int x5), some (.int r8), o12, o13, o14, o15]) (S2 := [.int a1, .ref 51]) (pc2 := 55) op77_54 rfl rfl ?_
      refine rx_p (L2 := [some (.ref 51), some (.int a1), some (.int a2), some (.int a3), some (.int a4), some (.int a5), some (.int a6), some (.int a7), some (.ref q8), some (.int a9), some (.int x5), some (.int r8), o12, o13, o14, o15]) (S2 := [.int x5, .int a1, .ref 51]) (pc2 := 57) op77_55 rfl rfl ?_
      refine rx_p (L2 := [some (.ref 51), some (.int a1), some (.int a2), some (.int a3), some (.int a4), some (.int a5), some (.int a6), some (.int a7), some (.ref q8), some (.int a9), some (.int x5), some (.int r8), o12, o13, o14, o15]) (S2 := [.int a3, .int x5, .int a1, .ref 51]) (pc2 := 58) op77_57 rfl rfl ?_
      obtain ⟨⟨r11, m10⟩, f12, h⟩ := rq_bind h
      try dsimp only at h
      refine ry_iv (p := 51) (vs := [.int a1, .int x5, .int a3]) (T := []) (pc2 := 61) op77_58 ms_79 (by decide) rfl rfl (Nat.le_of_ble_eq_true rfl) (Nat.le_of_ble_eq_true rfl) sp_51 (se_mayLead_ok xs (by omega)  f12) rfl ?_
      show rn_R _ _ _ _ _ [.int r11] _ _ _
      obtain ⟨m144, gc146, h⟩ := rq_bind h
      try dsimp only at h
      have c146 : ∀ (o138 o139 o140 o141 o142 o143 : Option Value), rn_R xs (d + 1) 77 300 [some (.ref 51), some (.int a1), some (.int a2), some (.int a3), some (.int a4), some (.int a5), some (.int a6), some (.int a7), some (.ref q8), some (.int a9), o138, o139, o140, o141, o142, o143] [] (rn_SH, m144) r τ := by
        intro o138 o139 o140 o141 o142 o143
        obtain ⟨x145, ex145, h⟩ := rq_bv h
        refine rx_inc (w := 1) (v := x145) (L2 := [some (.ref 51), some (.int a1), some (.int a2), some (.int a3), some (.int a4), some (.int a5), some (.int a6), some (.int a7), some (.ref q8), some (.int x145), o138, o139, o140, o141, o142, o143]) (pc2 := 303) op77_300 rfl (by decide) ex145 rfl rfl ?_
        refine ry_go (tgt := 17) op77_303 (by decide) (by decide) ?_
        exact ih _ _ _ _ _ _ _ _ hq8 h
      refine ry_if_eq (tgt := 300) (pc2 := 64) op77_61 (by decide) (by decide) rfl (fun b13 => ?_) (fun b13 => ?_)
      · have gc146 := (if_pos b13).symm.trans gc146
        cases gc146
        exact c146 _ _ _ _ _ _
      · have gc146 := (if_neg b13).symm.trans gc146
        refine rx_p (L2 := [some (.ref 51), some (.int a1), some (.int a2), some (.int a3), some (.int a4), some (.int a5), some (.int a6), some (.int a7), some (.ref q8), some (.int a9), some (.int x5), some (.int r8), o12, o13, o14, o15]) (S2 := [.int r8]) (pc2 := 66) op77_64 rfl rfl ?_
        refine ry_if_eq (tgt := 80) (pc2 := 69) op77_66 (by decide) (by decide) rfl (fun b14 => ?_) (fun b14 => ?_)
        · have gc146 := (if_pos b14).symm.trans gc146
          refine rx_p (L2 := [some (.ref 51), some (.int a1), some (.int a2), some (.int a3), some (.int a4), some (.int a5), some (.int a6), some (.int a7), some (.ref q8), some (.int a9), some (.int x5), some (.int r8), o12, o13, o14, o15]) (S2 := [.int a5]) (pc2 := 82) op77_80 rfl rfl ?_
          refine rx_p (L2 := [some (.ref 51), some (.int a1), some (.int a2), some (.int a3), some (.int a4), some (.int a5), some (.int a6), some (.int a7), some (.ref q8), some (.int a9), some (.int x5), some (.int r8), o12, o13, o14, o15]) (S2 := [.int r8, .int a5]) (pc2 := 84) op77_82 rfl rfl ?_
          obtain ⟨⟨r16, m15⟩, f17, gc146⟩ := rq_bind gc146
          try dsimp only at gc146
          refine ry_is (vs := [.int r8]) (T := [.int a5]) (pc2 := 87) op77_84 (by decide) ms_80 (by decide) rfl rfl (Nat.le_of_ble_eq_true rfl) (Nat.le_of_ble_eq_true rfl) (ja_bitCount_ok xs (by omega)  f17) rfl ?_
          show rn_R _ _ _ _ _ [.int r16, .int a5] _ _ _
          refine rx_p (L2 := [some (.ref 51), some (.int a1), some (.int a2), some (.int a3), some (.int a4), some (.int a5), some (.int a6), some (.int a7), some (.ref q8), some (.int a9), some (.int x5), some (.int r8), o12, o13, o14, o15]) (S2 := [.int (a5 + r16)]) (pc2 := 88) op77_87 rfl rfl ?_
          obtain ⟨x18, ex18, gc146⟩ := rq_bv gc146
          refine rx_s (v := x18) (L2 := [some (.ref 51), some (.int a1), some (.int a2), some (.int a3), some (.int a4), some (.int a5), some (.int a6), some (.int a7), some (.ref q8), some (.int a9), some (.int x5), some (.int r8), some (.int x18), o13, o14, o15]) (pc2 := 90) op77_88 ex18 rfl rfl ?_
          refine rx_p (L2 := [some (.ref 51), some (.int a1), some (.int a2), some (.int a3), some (.int a4), some (.int a5), some (.int a6), some (.int a7), some (.ref q8), some (.int a9), some (.int x5), some (.int r8), some (.int x18), o13, o14, o15]) (S2 := [.int a4]) (pc2 := 92) op77_90 rfl rfl ?_
          refine rx_p (L2 := [some (.ref 51), some (.int a1), some (.int a2), some (.int a3), some (.int a4), some (.int a5), some (.int a6), some (.int a7), some (.ref q8), some (.int a9), some (.int x5), some (.int r8), some (.int x18), o13, o14, o15]) (S2 := [.ref q8, .int a4]) (pc2 := 94) op77_92 rfl rfl ?_
          refine rx_gf (v := .ref (q8 + 3)) (pc2 := 97) op77_94 (hq8.1) rfl rfl rfl ?_
          refine rx_p (L2 := [some (.ref 51), some (.int a1), some (.int a2), some (.int a3), some (.int a4), some (.int a5), some (.int a6), some (.int a7), some (.ref q8), some (.int a9), some (.int x5), some (.int r8), some (.int x18), o13, o14, o15]) (S2 := [.int a9, .ref (q8 + 3), .int a4]) (pc2 := 99) op77_97 rfl rfl ?_
          obtain ⟨k19, gc146⟩ := rq_chk gc146
          refine rx_ia (pc2 := 100) op77_99 (rn_shlt (hq8.2.2.2.1)) (hq8.2.2.2.1) k19 rfl rfl ?_
          refine rx_p (L2 := [some (.ref 51), some (.int a1), some (.int a2), some (.int a3), some (.int a4), some (.int a5), some (.int a6), some (.int a7), some (.ref q8), some (.int a9), some (.int x5), some (.int r8), some (.int x18), o13, o14, o15]) (S2 := [.int (a4 ||| (m15.1 (q8 + 3) a9.toNatClampNeg))]) (pc2 := 101) op77_100 rfl rfl ?_
          obtain ⟨x20, ex20, gc146⟩ := rq_bv gc146
          refine rx_s (v := x20) (L2 := [some (.ref 51), some (.int a1), some (.int a2), some (.int a3), some (.int a4), some (.int a5), some (.int a6), some (.int a7), some (.ref q8), some (.int a9), some (.int x5), some (.int r8), some (.int x18), some (.int x20), o14, o15]) (pc2 := 103) op77_101 ex20 rfl rfl ?_
          refine rx_p (L2 := [some (.ref 51), some (.int a1), some (.int a2), some (.int a3), some (.int a4), some (.int a5), some (.int a6), some (.int a7), some (.ref q8), some (.int a9), some (.int x5), some (.int r8), some (.int x18), some (.int x20), o14, o15]) (S2 := [.int a7]) (pc2 := 105) op77_103 rfl rfl ?_
          refine rx_p (L2 := [some (.ref 51), some (.int a1), some (.int a2), some (.int a3), some (.int a4), some (.int a5), some (.int a6), some (.int a7), some (.ref q8), some (.int a9), some (.int x5), some (.int r8), some (.int x18), some (.int x20), o14, o15]) (S2 := [.ref q8, .int a7]) (pc2 := 107) op77_105 rfl rfl ?_
          refine rx_gf (v := .ref (q8 + 4)) (pc2 := 110) op77_107 (hq8.1) rfl rfl rfl ?_
          refine rx_p (L2 := [some (.ref 51), some (.int a1), some (.int a2), some (.int a3), some (.int a4), some (.int a5), some (.int a6), some (.int a7), some (.ref q8), some (.int a9), some (.int x5), some (.int r8), some (.int x18), some (.int x20), o14, o15]) (S2 := [.int a9, .ref (q8 + 4), .int a7]) (pc2 := 112) op77_110 rfl rfl ?_
          obtain ⟨k21, gc146⟩ := rq_chk gc146
          refine rx_ia (pc2 := 113) op77_112 (rn_shlt (hq8.2.2.2.2.1)) (hq8.2.2.2.2.1) k21 rfl rfl ?_
          refine rx_p (L2 := [some (.ref 51), some (.int a1), some (.int a2), some (.int a3), some (.int a4), some (.int a5), some (.int a6), some (.int a7), some (.ref q8), some (.int a9), some (.int x5), some (.int r8), some (.int x18), some (.int x20), o14, o15]) (S2 := [.int (a7 ||| (m15.1 (q8 + 4) a9.toNatClampNeg))]) (pc2 := 114) op77_113 rfl rfl ?_
          refine rx_p (L2 := [some (.ref 51), some (.int a1), some (.int a2), some (.int a3), some (.int a4), some (.int a5), some (.int a6), some (.int a7), some (.ref q8), some (.int a9), some (.int x5), some (.int r8), some (.int x18), some (.int x20), o14, o15]) (S2 := [.ref 51, .int (a7 ||| (m15.1 (q8 + 4) a9.toNatClampNeg))]) (pc2 := 115) op77_114 rfl rfl ?_
          refine rx_gf (v := .ref 57) (pc2 := 118) op77_115 sp_51 rfl rfl rfl ?_
          refine rx_p (L2 := [some (.ref 51), some (.int a1), some (.int a2), some (.int a3), some (.int a4), some (.int a5), some (.int a6), some (.int a7), some (.ref q8), some (.int a9), some (.int x5), some (.int r8), some (.int x18), some (.int x20), o14, o15]) (S2 := [.int a1, .ref 57, .int (a7 ||| (m15.1 (q8 + 4) a9.toNatClampNeg))]) (pc2 := 119) op77_118 rfl rfl ?_
          refine rx_p (L2 := [some (.ref 51), some (.int a1), some (.int a2), some (.int a3), some (.int a4), some (.int a5), some (.int a6), some (.int a7), some (.ref q8), some (.int a9), some (.int x5), some (.int r8), some (.int x18), some (.int x20), o14, o15]) (S2 := [.int x5, .int a1, .ref 57, .int (a7 ||| (m15.1 (q8 + 4) a9.toNatClampNeg))]) (pc2 := 121) op77_119 rfl rfl ?_
          refine rx_p (L2 := [some (.ref 51), some (.int a1), some (.int a2), some (.int a3), some (.int a4), some (.int a5), some (.int a6), some (.int a7), some (.ref q8), some (.int a9), some (.int x5), some (.int r8), some (.int x18), some (.int x20), o14, o15]) (S2 := [.ref q8, .int x5, .int a1, .ref 57, .int (a7 ||| (m15.1 (q8 + 4) a9.toNatClampNeg))]) (pc2 := 123) op77_121 rfl rfl ?_
          refine rx_gf (v := .int (m15.1 q8 1)) (pc2 := 126) op77_123 (hq8.1) rfl rfl rfl ?_
          refine rx_p (L2 := [some (.ref 51), some (.int a1), some (.int a2), some (.int a3), some (.int a4), some (.int a5), some (.int a6), some (.int a7), some (.ref q8), some (.int a9), some (.int x5), some (.int r8), some (.int x18), some (.int x20), o14, o15]) (S2 := [.ref 51, .int (m15.1 q8 1), .int x5, .int a1, .ref 57, .int (a7 ||| (m15.1 (q8 + 4) a9.toNatClampNeg))]) (pc2 := 127) op77_126 rfl rfl ?_
          refine rx_gf (v := .int (m15.1 51 9)) (pc2 := 130) op77_127 sp_51 rfl rfl rfl ?_
          refine rx_p (L2 := [some (.ref 51), some (.int a1), some (.int a2), some (.int a3), some (.int a4), some (.int a5), some (.int a6), some (.int a7), some (.ref q8), some (.int a9), some (.int x5), some (.int r8), some (.int x18), some (.int x20), o14, o15]) (S2 := [.int x20, .int (m15.1 51 9), .int (m15.1 q8 1), .int x5, .int a1, .ref 57, .int (a7 ||| (m15.1 (q8 + 4) a9.toNatClampNeg))]) (pc2 := 132) op77_130 rfl rfl ?_
          obtain ⟨⟨r23, m22⟩, f24, gc146⟩ := rq_bind gc146
          try dsimp only at gc146
          refine ry_iv (p := 57) (vs := [.int a1, .int x5, .int (m15.1 q8 1), .int (m15.1 51 9), .int x20]) (T := [.int (a7 ||| (m15.1 (q8 + 4) a9.toNatClampNeg))]) (pc2 := 135) op77_132 ms_81 (by decide) rfl rfl (Nat.le_of_ble_eq_true rfl) (Nat.le_of_ble_eq_true rfl) sp_57 (cl_againstTrick_ok xs (by omega) sa_57 f24) rfl ?_
          show rn_R _ _ _ _ _ [.int r23, .int (a7 ||| (m15.1 (q8 + 4) a9.toNatClampNeg))] _ _ _
          refine rx_p (L2 := [some (.ref 51), some (.int a1), some (.int a2), some (.int a3), some (.int a4), some (.int a5), some (.int a6), some (.int a7), some (.ref q8), some (.int a9), some (.int x5), some (.int r8), some (.int x18), some (.int x20), o14, o15]) (S2 := [.int ((a7 ||| (m15.1 (q8 + 4) a9.toNatClampNeg)) ||| r23)]) (pc2 := 136) op77_135 rfl rfl ?_
          obtain ⟨x25, ex25, gc146⟩ := rq_bv gc146
          refine rx_s (v := x25) (L2 := [some (.ref 51), some (.int a1), some (.int a2), some (.int a3), some (.int a4), some (.int a5), some (.int a6), some (.int a7), some (.ref q8), some (.int a9), some (.int x5), some (.int r8), some (.int x18), some (.int x20), some (.int x25), o15]) (pc2 := 138) op77_136 ex25 rfl rfl ?_
          refine rx_p (L2 := [some (.ref 51), some (.int a1), some (.int a2), some (.int a3), some (.int a4), some (.int a5), some (.int a6), some (.int a7), some (.ref q8), some (.int a9), some (.int x5), some (.int r8), some (.int x18), some (.int x20), some (.int x25), o15]) (S2 := [.ref 51]) (pc2 := 139) op77_138 rfl rfl ?_
          refine rx_gf (v := .int (m22.1 51 10)) (pc2 := 142) op77_139 sp_51 rfl rfl rfl ?_
          refine rx_ic (v := 1) (pc2 := 143) op77_142 (by decide) rfl ?_
          obtain ⟨⟨x31, m32⟩, gc75, gc146⟩ := rq_bind gc146
          try dsimp only at gc146
          have c75 : ∀ (o30 : Option Value), rn_R xs (d + 1) 77 156 [some (.ref 51), some (.int a1), some (.int a2), some (.int a3), some (.int a4), some (.int a5), some (.int a6), some (.int a7), some (.ref q8), some (.int a9), some (.int x5), some (.int r8), some (.int x18), some (.int x20), some (.int x25), o30] [.int x31] (rn_SH, m32) r τ := by
            intro o30
            refine rx_s (L2 := [some (.ref 51), some (.int a1), some (.int a2), some (.int a3), some (.int a4), some (.int a5), some (.int a6), some (.int a7), some (.ref q8), some (.int a9), some (.int x5), some (.int r8), some (.int x18), some (.int x20), some (.int x25), some (.int x31)]) (pc2 := 158) op77_156 rfl rfl rfl ?_
            refine rx_p (L2 := [some (.ref 51), some (.int a1), some (.int a2), some (.int a3), some (.int a4), some (.int a5), some (.int a6), some (.int a7), some (.ref q8), some (.int a9), some (.int x5), some (.int r8), some (.int x18), some (.int x20), some (.int x25), some (.int x31)]) (S2 := [.ref 51]) (pc2 := 159) op77_158 rfl rfl ?_
            refine rx_p (L2 := [some (.ref 51), some (.int a1), some (.int a2), some (.int a3), some (.int a4), some (.int a5), some (.int a6), some (.int a7), some (.ref q8), some (.int a9), some (.int x5), some (.int r8), some (.int x18), some (.int x20), some (.int x25), some (.int x31)]) (S2 := [.int x31, .ref 51]) (pc2 := 161) op77_159 rfl rfl ?_
            refine rx_p (L2 := [some (.ref 51), some (.int a1), some (.int a2), some (.int a3), some (.int a4), some (.int a5), some (.int a6), some (.int a7), some (.ref q8), some (.int a9), some (.int x5), some (.int r8), some (.int x18), some (.int x20), some (.int x25), some (.int x31)]) (S2 := [.int a6, .int x31, .ref 51]) (pc2 := 163) op77_161 rfl rfl ?_
            refine rx_p (L2 := [some (.ref 51), some (.int a1), some (.int a2), some (.int a3), some (.int a4), some (.int a5), some (.int a6), some (.int a7), some (.ref q8), some (.int a9), some (.int x5), some (.int r8), some (.int x18), some (.int x20), some (.int x25), some (.int x31)]) (S2 := [.int r8, .int a6, .int x31, .ref 51]) (pc2 := 165) op77_163 rfl rfl ?_
            refine rx_p (L2 := [some (.ref 51), some (.int a1), some (.int a2), some (.int a3), some (.int a4), some (.int a5), some (.int a6), some (.int a7), some (.ref q8), some (.int a9), some (.int x5), some (.int r8), some (.int x18), some (.int x20), some (.int x25), some (.int x31)]) (S2 := [.int (a6 ||| r8), .int x31, .ref 51]) (pc2 := 166) op77_165 rfl rfl ?_
            refine rx_p (L2 := [some (.ref 51), some (.int a1), some (.int a2), some (.int a3), some (.int a4), some (.int a5), some (.int a6), some (.int a7), some (.ref q8), some (.int a9), some (.int x5), some (.int r8), some (.int x18), some (.int x20), some (.int x25), some (.int x31)]) (S2 := [.int x25, .int (a6 ||| r8), .int x31, .ref 51]) (pc2 := 168) op77_166 rfl rfl ?_
            obtain ⟨⟨r34, m33⟩, f35, gc146⟩ := rq_bind gc146
            try dsimp only at gc146
            refine ry_iv (p := 51) (vs := [.int x31, .int (a6 ||| r8), .int x25]) (T := []) (pc2 := 171) op77_168 ms_83 (by decide) rfl rfl (Nat.le_of_ble_eq_true rfl) (Nat.le_of_ble_eq_true rfl) sp_51 (se_promises_ok xs (by omega)  f35) rfl ?_
            show rn_R _ _ _ _ _ [.int r34] _ _ _
            refine ry_if_ne (tgt := 177) (pc2 := 174) op77_171 (by decide) (by decide) rfl (fun b36 => ?_) (fun b36 => ?_)
            · have gc146 := (if_pos b36).symm.trans gc146
              refine ry_go (tgt := 300) op77_174 (by decide) (by decide) ?_
              cases gc146
              exact c146 _ _ _ _ _ _
            · have gc146 := (if_neg b36).symm.trans gc146
              refine rx_p (L2 := [some (.ref 51), some (.int a1), some (.int a2), some (.int a3), some (.int a4), some (.int a5), some (.int a6), some (.int a7), some (.ref q8), some (.int a9), some (.int x5), some (.int r8), some (.int x18), some (.int x20), some (.int x25), some (.int x31)]) (S2 := [.ref 51]) (pc2 := 178) op77_177 rfl rfl ?_
              refine rx_gf (v := .ref 67) (pc2 := 181) op77_178 sp_51 rfl rfl rfl ?_
              refine rx_p (L2 := [some (.ref 51), some (.int a1), some (.int a2), some (.int a3), some (.int a4), some (.int a5), some (.int a6), some (.int a7), some (.ref q8), some (.int a9), some (.int x5), some (.int r8), some (.int x18), some (.int x20), some (.int x25), some (.int x31)]) (S2 := [.int a1, .ref 67]) (pc2 := 182) op77_181 rfl rfl ?_
              refine rx_p (L2 := [some (.ref 51), some (.int a1), some (.int a2), some (.int a3), some (.int a4), some (.int a5), some (.int a6), some (.int a7), some (.ref q8), some (.int a9), some (.int x5), some (.int r8), some (.int x18), some (.int x20), some (.int x25), some (.int x31)]) (S2 := [.int a2, .int a1, .ref 67]) (pc2 := 183) op77_182 rfl rfl ?_
              refine rx_bp (v := 24) (pc2 := 185) op77_183 (by decide) rfl ?_
              refine rx_p (L2 := [some (.ref 51), some (.int a1), some (.int a2), some (.int a3), some (.int a4), some (.int a5), some (.int a6), some (.int a7), some (.ref q8), some (.int a9), some (.int x5), some (.int r8), some (.int x18), some (.int x20), some (.int x25), some (.int x31)]) (S2 := [.int (a2 * 24), .int a1, .ref 67]) (pc2 := 186) op77_185 rfl rfl ?_
              refine rx_p (L2 := [some (.ref 51), some (.int a1), some (.int a2), some (.int a3), some (.int a4), some (.int a5), some (.int a6), some (.int a7), some (.ref q8), some (.int a9), some (.int x5), some (.int r8), some (.int x18), some (.int x20), some (.int x25), some (.int x31)]) (S2 := [.int a9, .int (a2 * 24), .int a1, .ref 67]) (pc2 := 188) op77_186 rfl rfl ?_
              refine rx_p (L2 := [some (.ref 51), some (.int a1), some (.int a2), some (.int a3), some (.int a4), some (.int a5), some (.int a6), some (.int a7), some (.ref q8), some (.int a9), some (.int x5), some (.int r8), some (.int x18), some (.int x20), some (.int x25), some (.int x31)]) (S2 := [.int ((a2 * 24) + a9), .int a1, .ref 67]) (pc2 := 189) op77_188 rfl rfl ?_
              obtain ⟨k38, gc146⟩ := rq_chk gc146
              obtain ⟨m37, em37, gc146⟩ := rq_bv gc146
              refine rx_is (m2 := m37) (pc2 := 190) op77_189 sp_67 k38 rfl em37 rfl ?_
              refine rx_p (L2 := [some (.ref 51), some (.int a1), some (.int a2), some (.int a3), some (.int a4), some (.int a5), some (.int a6), some (.int a7), some (.ref q8), some (.int a9), some (.int x5), some (.int r8), some (.int x18), some (.int x20), some (.int x25), some (.int x31)]) (S2 := [.int a1]) (pc2 := 191) op77_190 rfl rfl ?_
              refine ry_if_ne (tgt := 210) (pc2 := 194) op77_191 (by decide) (by decide) rfl (fun b39 => ?_) (fun b39 => ?_)
              · have gc146 := (if_pos b39).symm.trans gc146
                refine rx_p (L2 := [some (.ref 51), some (.int a1), some (.int a2), some (.int a3), some (.int a4), some (.int a5), some (.int a6), some (.int a7), some (.ref q8), some (.int a9), some (.int x5), some (.int r8), some (.int x18), some (.int x20), some (.int x25), some (.int x31)]) (S2 := [.ref 51]) (pc2 := 195) op77_194 rfl rfl ?_
                refine rx_gf (v := .int (m37.1 51 10)) (pc2 := 198) op77_195 sp_51 rfl rfl rfl ?_
                refine ry_if_ne (tgt := 210) (pc2 := 201) op77_198 (by decide) (by decide) rfl (fun b40 => ?_) (fun b40 => ?_)
                · have gc146 := (if_pos b40).symm.trans gc146
                  refine rx_p (L2 := [some (.ref 51), some (.int a1), some (.int a2), some (.int a3), some (.int a4), some (.int a5), some (.int a6), some (.int a7), some (.ref q8), some (.int a9), some (.int x5), some (.int r8), some (.int x18), some (.int x20), some (.int x25), some (.int x31)]) (S2 := [.ref 51]) (pc2 := 202) op77_201 rfl rfl ?_
                  refine rx_p (L2 := [some (.ref 51), some (.int a1), some (.int a2), some (.int a3), some (.int a4), some (.int a5), some (.int a6), some (.int a7), some (.ref q8), some (.int a9), some (.int x5), some (.int r8), some (.int x18), some (.int x20), some (.int x25), some (.int x31)]) (S2 := [.int x5, .ref 51]) (pc2 := 204) op77_202 rfl rfl ?_
                  obtain ⟨m41, f42, gc146⟩ := rq_bind gc146
                  try dsimp only at gc146
                  refine ry_iv (p := 51) (vs := [.int x5]) (T := []) (pc2 := 207) op77_204 ms_84 (by decide) rfl rfl (Nat.le_of_ble_eq_true rfl) (Nat.le_of_ble_eq_true rfl) sp_51 (se_notePlay_ok xs (by omega)  f42) rfl ?_
                  show rn_R _ _ _ _ _ [] _ _ _
                  refine ry_go (tgt := 300) op77_207 (by decide) (by decide) ?_
                  cases gc146
                  exact c146 _ _ _ _ _ _
                · have gc146 := (if_neg b40).symm.trans gc146
                  refine rx_p (L2 := [some (.ref 51), some (.int a1), some (.int a2), some (.int a3), some (.int a4), some (.int a5), some (.int a6), some (.int a7), some (.ref q8), some (.int a9), some (.int x5), some (.int r8), some (.int x18), some (.int x20), some (.int x25), some (.int x31)]) (S2 := [.int a1]) (pc2 := 211) op77_210 rfl rfl ?_
                  refine ry_if_ne (tgt := 228) (pc2 := 214) op77_211 (by decide) (by decide) rfl (fun b43 => ?_) (fun b43 => ?_)
                  · have gc146 := (if_pos b43).symm.trans gc146
                    refine rx_p (L2 := [some (.ref 51), some (.int a1), some (.int a2), some (.int a3), some (.int a4), some (.int a5), some (.int a6), some (.int a7), some (.ref q8), some (.int a9), some (.int x5), some (.int r8), some (.int x18), some (.int x20), some (.int x25), some (.int x31)]) (S2 := [.ref 51]) (pc2 := 215) op77_214 rfl rfl ?_
                    refine rx_p (L2 := [some (.ref 51), some (.int a1), some (.int a2), some (.int a3), some (.int a4), some (.int a5), some (.int a6), some (.int a7), some (.ref q8), some (.int a9), some (.int x5), some (.int r8), some (.int x18), some (.int x20), some (.int x25), some (.int x31)]) (S2 := [.int x31, .ref 51]) (pc2 := 217) op77_215 rfl rfl ?_
                    refine rx_p (L2 := [some (.ref 51), some (.int a1), some (.int a2), some (.int a3), some (.int a4), some (.int a5), some (.int a6), some (.int a7), some (.ref q8), some (.int a9), some (.int x5), some (.int r8), some (.int x18), some (.int x20), some (.int x25), some (.int x31)]) (S2 := [.int a6, .int x31, .ref 51]) (pc2 := 219) op77_217 rfl rfl ?_
                    refine rx_p (L2 := [some (.ref 51), some (.int a1), some (.int a2), some (.int a3), some (.int a4), some (.int a5), some (.int a6), some (.int a7), some (.ref q8), some (.int a9), some (.int x5), some (.int r8), some (.int x18), some (.int x20), some (.int x25), some (.int x31)]) (S2 := [.int r8, .int a6, .int x31, .ref 51]) (pc2 := 221) op77_219 rfl rfl ?_
                    refine rx_p (L2 := [some (.ref 51), some (.int a1), some (.int a2), some (.int a3), some (.int a4), some (.int a5), some (.int a6), some (.int a7), some (.ref q8), some (.int a9), some (.int x5), some (.int r8), some (.int x18), some (.int x20), some (.int x25), some (.int x31)]) (S2 := [.int (a6 ||| r8), .int x31, .ref 51]) (pc2 := 222) op77_221 rfl rfl ?_
                    obtain ⟨m44, f45, gc146⟩ := rq_bind gc146
                    try dsimp only at gc146
                    refine ry_iv (p := 51) (vs := [.int x31, .int (a6 ||| r8)]) (T := []) (pc2 := 225) op77_222 ms_86 (by decide) rfl rfl (Nat.le_of_ble_eq_true rfl) (Nat.le_of_ble_eq_true rfl) sp_51 (se_noteLess_ok xs (by omega)  f45) rfl ?_
                    show rn_R _ _ _ _ _ [] _ _ _
                    refine ry_go (tgt := 300) op77_225 (by decide) (by decide) ?_
                    cases gc146
                    exact c146 _ _ _ _ _ _
                  · have gc146 := (if_neg b43).symm.trans gc146
                    refine rx_p (L2 := [some (.ref 51), some (.int a1), some (.int a2), some (.int a3), some (.int a4), some (.int a5), some (.int a6), some (.int a7), some (.ref q8), some (.int a9), some (.int x5), some (.int r8), some (.int x18), some (.int x20), some (.int x25), some (.int x31)]) (S2 := [.ref 51]) (pc2 := 229) op77_228 rfl rfl ?_
                    refine rx_p (L2 := [some (.ref 51), some (.int a1), some (.int a2), some (.int a3), some (.int a4), some (.int a5), some (.int a6), some (.int a7), some (.ref q8), some (.int a9), some (.int x5), some (.int r8), some (.int x18), some (.int x20), some (.int x25), some (.int x31)]) (S2 := [.ref 51, .ref 51]) (pc2 := 230) op77_229 rfl rfl ?_
                    refine rx_gf (v := .int (m37.1 51 9)) (pc2 := 233) op77_230 sp_51 rfl rfl rfl ?_
                    refine rx_p (L2 := [some (.ref 51), some (.int a1), some (.int a2), some (.int a3), some (.int a4), some (.int a5), some (.int a6), some (.int a7), some (.ref q8), some (.int a9), some (.int x5), some (.int r8), some (.int x18), some (.int x20), some (.int x25), some (.int x31)]) (S2 := [.ref q8, .int (m37.1 51 9), .ref 51]) (pc2 := 235) op77_233 rfl rfl ?_
                    refine rx_gf (v := .int (m37.1 q8 1)) (pc2 := 238) op77_235 (hq8.1) rfl rfl rfl ?_
                    refine rx_p (L2 := [some (.ref 51), some (.int a1), some (.int a2), some (.int a3), some (.int a4), some (.int a5), some (.int a6), some (.int a7), some (.ref q8), some (.int a9), some (.int x5), some (.int r8), some (.int x18), some (.int x20), some (.int x25), some (.int x31)]) (S2 := [.int ((m37.1 51 9) ||| (m37.1 q8 1)), .ref 51]) (pc2 := 239) op77_238 rfl rfl ?_
                    obtain ⟨m46, em46, gc146⟩ := rq_bv gc146
                    refine rx_pf (m2 := m46) (pc2 := 242) op77_239 sp_51 rfl em46 rfl ?_
                    refine rx_p (L2 := [some (.ref 51), some (.int a1), some (.int a2), some (.int a3), some (.int a4), some (.int a5), some (.int a6), some (.int a7), some (.ref q8), some (.int a9), some (.int x5), some (.int r8), some (.int x18), some (.int x20), some (.int x25), some (.int x31)]) (S2 := [.ref 51]) (pc2 := 243) op77_242 rfl rfl ?_
                    refine rx_p (L2 := [some (.ref 51), some (.int a1), some (.int a2), some (.int a3), some (.int a4), some (.int a5), some (.int a6), some (.int a7), some (.ref q8), some (.int a9), some (.int x5), some (.int r8), some (.int x18), some (.int x20), some (.int x25), some (.int x31)]) (S2 := [.int a1, .ref 51]) (pc2 := 244) op77_243 rfl rfl ?_
                    refine rx_ic (v := 1) (pc2 := 245) op77_244 (by decide) rfl ?_
                    refine rx_p (L2 := [some (.ref 51), some (.int a1), some (.int a2), some (.int a3), some (.int a4), some (.int a5), some (.int a6), some (.int a7), some (.ref q8), some (.int a9), some (.int x5), some (.int r8), some (.int x18), some (.int x20), some (.int x25), some (.int x31)]) (S2 := [.int (a1 - 1), .ref 51]) (pc2 := 246) op77_245 rfl rfl ?_
                    refine rx_p (L2 := [some (.ref 51), some (.int a1), some (.int a2), some (.int a3), some (.int a4), some (.int a5), some (.int a6), some (.int a7), some (.ref q8), some (.int a9), some (.int x5), some (.int r8), some (.int x18), some (.int x20), some (.int x25), some (.int x31)]) (S2 := [.ref 51, .int (a1 - 1), .ref 51]) (pc2 := 247) op77_246 rfl rfl ?_
                    refine rx_gf (v := .ref 52) (pc2 := 250) op77_247 sp_51 rfl rfl rfl ?_
                    refine rx_gf (v := .int (m46.1 52 6)) (pc2 := 253) op77_250 sp_52 rfl rfl rfl ?_
                    obtain ⟨⟨x53, m54⟩, gc58, gc146⟩ := rq_bind gc146
                    try dsimp only at gc146
                    have c58 : ∀ (o51 o52 : Option Value), rn_R xs (d + 1) 77 270 [some (.ref 51), some (.int a1), some (.int a2), some (.int a3), some (.int a4), some (.int a5), some (.int a6), some (.int a7), some (.ref q8), some (.int a9), o51, some (.int r8), some (.int x18), some (.int x20), some (.int x25), o52] [.int x53, .int (a1 - 1), .ref 51] (rn_SH, m54) r τ := by
                      intro o51 o52
                      refine rx_p (L2 := [some (.ref 51), some (.int a1), some (.int a2), some (.int a3), some (.int a4), some (.int a5), some (.int a6), some (.int a7), some (.ref q8), some (.int a9), o51, some (.int r8), some (.int x18), some (.int x20), some (.int x25), o52]) (S2 := [.int x20, .int x53, .int (a1 - 1), .ref 51]) (pc2 := 272) op77_270 rfl rfl ?_
                      refine rx_p (L2 := [some (.ref 51), some (.int a1), some (.int a2), some (.int a3), some (.int a4), some (.int a5), some (.int a6), some (.int a7), some (.ref q8), some (.int a9), o51, some (.int r8), some (.int x18), some (.int x20), some (.int x25), o52]) (S2 := [.int x18, .int x20, .int x53, .int (a1 - 1), .ref 51]) (pc2 := 274) op77_272 rfl rfl ?_
                      refine rx_p (L2 := [some (.ref 51), some (.int a1), some (.int a2), some (.int a3), some (.int a4), some (.int a5), some (.int a6), some (.int a7), some (.ref q8), some (.int a9), o51, some (.int r8), some (.int x18), some (.int x20), some (.int x25), o52]) (S2 := [.int a6, .int x18, .int x20, .int x53, .int (a1 - 1), .ref 51]) (pc2 := 276) op77_274 rfl rfl ?_
                      refine rx_p (L2 := [some (.ref 51), some (.int a1), some (.int a2), some (.int a3), some (.int a4), some (.int a5), some (.int a6), some (.int a7), some (.ref q8), some (.int a9), o51, some (.int r8), some (.int x18), some (.int x20), some (.int x25), o52]) (S2 := [.int r8, .int a6, .int x18, .int x20, .int x53, .int (a1 - 1), .ref 51]) (pc2 := 278) op77_276 rfl rfl ?_
                      refine rx_p (L2 := [some (.ref 51), some (.int a1), some (.int a2), some (.int a3), some (.int a4), some (.int a5), some (.int a6), some (.int a7), some (.ref q8), some (.int a9), o51, some (.int r8), some (.int x18), some (.int x20), some (.int x25), o52]) (S2 := [.int (a6 ||| r8), .int x18, .int x20, .int x53, .int (a1 - 1), .ref 51]) (pc2 := 279) op77_278 rfl rfl ?_
                      refine rx_p (L2 := [some (.ref 51), some (.int a1), some (.int a2), some (.int a3), some (.int a4), some (.int a5), some (.int a6), some (.int a7), some (.ref q8), some (.int a9), o51, some (.int r8), some (.int x18), some (.int x20), some (.int x25), o52]) (S2 := [.int x25, .int (a6 ||| r8), .int x18, .int x20, .int x53, .int (a1 - 1), .ref 51]) (pc2 := 281) op77_279 rfl rfl ?_
                      obtain ⟨m55, f56, gc146⟩ := rq_bind gc146
                      try dsimp only at gc146
                      refine ry_iv (p := 51) (vs := [.int (a1 - 1), .int x53, .int x20, .int x18, .int (a6 ||| r8), .int x25]) (T := []) (pc2 := 284) op77_281 ms_76 (by decide) rfl rfl (Nat.le_of_ble_eq_true rfl) (Nat.le_of_ble_eq_true rfl) sp_51 (hrec  f56) rfl ?_
                      show rn_R _ _ _ _ _ [] _ _ _
                      refine rx_p (L2 := [some (.ref 51), some (.int a1), some (.int a2), some (.int a3), some (.int a4), some (.int a5), some (.int a6), some (.int a7), some (.ref q8), some (.int a9), o51, some (.int r8), some (.int x18), some (.int x20), some (.int x25), o52]) (S2 := [.ref 51]) (pc2 := 285) op77_284 rfl rfl ?_
                      refine rx_p (L2 := [some (.ref 51), some (.int a1), some (.int a2), some (.int a3), some (.int a4), some (.int a5), some (.int a6), some (.int a7), some (.ref q8), some (.int a9), o51, some (.int r8), some (.int x18), some (.int x20), some (.int x25), o52]) (S2 := [.ref 51, .ref 51]) (pc2 := 286) op77_285 rfl rfl ?_
                      refine rx_gf (v := .int (m55.1 51 9)) (pc2 := 289) op77_286 sp_51 rfl rfl rfl ?_
                      refine rx_p (L2 := [some (.ref 51), some (.int a1), some (.int a2), some (.int a3), some (.int a4), some (.int a5), some (.int a6), some (.int a7), some (.ref q8), some (.int a9), o51, some (.int r8), some (.int x18), some (.int x20), some (.int x25), o52]) (S2 := [.ref q8, .int (m55.1 51 9), .ref 51]) (pc2 := 291) op77_289 rfl rfl ?_
                      refine rx_gf (v := .int (m55.1 q8 1)) (pc2 := 294) op77_291 (hq8.1) rfl rfl rfl ?_
                      refine rx_ic (v := (-1)) (pc2 := 295) op77_294 (by decide) rfl ?_
                      refine rx_p (L2 := [some (.ref 51), some (.int a1), some (.int a2), some (.int a3), some (.int a4), some (.int a5), some (.int a6), some (.int a7), some (.ref q8), some (.int a9), o51, some (.int r8), some (.int x18), some (.int x20), some (.int x25), o52]) (S2 := [.int ((m55.1 q8 1) ^^^ (-1)), .int (m55.1 51 9), .ref 51]) (pc2 := 296) op77_295 rfl rfl ?_
                      refine rx_p (L2 := [some (.ref 51), some (.int a1), some (.int a2), some (.int a3), some (.int a4), some (.int a5), some (.int a6), some (.int a7), some (.ref q8), some (.int a9), o51, some (.int r8), some (.int x18), some (.int x20), some (.int x25), o52]) (S2 := [.int ((m55.1 51 9) &&& ((m55.1 q8 1) ^^^ (-1))), .ref 51]) (pc2 := 297) op77_296 rfl rfl ?_
                      obtain ⟨m57, em57, gc146⟩ := rq_bv gc146
                      refine rx_pf (m2 := m57) (pc2 := 300) op77_297 sp_51 rfl em57 rfl ?_
                      cases gc146
                      exact c146 _ _ _ _ _ _
                    refine ry_if_ne (tgt := 261) (pc2 := 256) op77_253 (by decide) (by decide) rfl (fun b47 => ?_) (fun b47 => ?_)
                    · have gc58 := (if_pos b47).symm.trans gc58
                      refine rx_p (L2 := [some (.ref 51), some (.int a1), some (.int a2), some (.int a3), some (.int a4), some (.int a5), some (.int a6), some (.int a7), some (.ref q8), some (.int a9), some (.int x5), some (.int r8), some (.int x18), some (.int x20), some (.int x25), some (.int x31)]) (S2 := [.int x5, .int (a1 - 1), .ref 51]) (pc2 := 258) op77_256 rfl rfl ?_
                      refine ry_go (tgt := 270) op77_258 (by decide) (by decide) ?_
                      cases gc58
                      exact c58 _ _
                    · have gc58 := (if_neg b47).symm.trans gc58
                      refine rx_p (L2 := [some (.ref 51), some (.int a1), some (.int a2), some (.int a3), some (.int a4), some (.int a5), some (.int a6), some (.int a7), some (.ref q8), some (.int a9), some (.int x5), some (.int r8), some (.int x18), some (.int x20), some (.int x25), some (.int x31)]) (S2 := [.ref 51, .int (a1 - 1), .ref 51]) (pc2 := 262) op77_261 rfl rfl ?_
                      refine rx_gf (v := .ref 52) (pc2 := 265) op77_262 sp_51 rfl rfl rfl ?_
                      refine rx_p (L2 := [some (.ref 51), some (.int a1), some (.int a2), some (.int a3), some (.int a4), some (.int a5), some (.int a6), some (.int a7), some (.ref q8), some (.int a9), some (.int x5), some (.int r8), some (.int x18), some (.int x20), some (.int x25), some (.int x31)]) (S2 := [.int x5, .ref 52, .int (a1 - 1), .ref 51]) (pc2 := 267) op77_265 rfl rfl ?_
                      obtain ⟨⟨r49, m48⟩, f50, gc58⟩ := rq_bind gc58
                      try dsimp only at gc58
                      refine ry_iv (p := 52) (vs := [.int x5]) (T := [.int (a1 - 1), .ref 51]) (pc2 := 270) op77_267 ms_87 (by decide) rfl rfl (Nat.le_of_ble_eq_true rfl) (Nat.le_of_ble_eq_true rfl) sp_52 (ga_previous_ok xs (by omega) sa_52 f50) rfl ?_
                      show rn_R _ _ _ _ _ [.int r49, .int (a1 - 1), .ref 51] _ _ _
                      cases gc58
                      exact c58 _ _
              · have gc146 := (if_neg b39).symm.trans gc146
                refine rx_p (L2 := [some (.ref 51), some (.int a1), some (.int a2), some (.int a3), some (.int a4), some (.int a5), some (.int a6), some (.int a7), some (.ref q8), some (.int a9), some (.int x5), some (.int r8), some (.int x18), some (.int x20), some (.int x25), some (.int x31)]) (S2 := [.int a1]) (pc2 := 211) op77_210 rfl rfl ?_
                refine ry_if_ne (tgt := 228) (pc2 := 214) op77_211 (by decide) (by decide) rfl (fun b59 => ?_) (fun b59 => ?_)
                · have gc146 := (if_pos b59).symm.trans gc146
                  refine rx_p (L2 := [some (.ref 51), some (.int a1), some (.int a2), some (.int a3), some (.int a4), some (.int a5), some (.int a6), some (.int a7), some (.ref q8), some (.int a9), some (.int x5), some (.int r8), some (.int x18), some (.int x20), some (.int x25), some (.int x31)]) (S2 := [.ref 51]) (pc2 := 215) op77_214 rfl rfl ?_
                  refine rx_p (L2 := [some (.ref 51), some (.int a1), some (.int a2), some (.int a3), some (.int a4), some (.int a5), some (.int a6), some (.int a7), some (.ref q8), some (.int a9), some (.int x5), some (.int r8), some (.int x18), some (.int x20), some (.int x25), some (.int x31)]) (S2 := [.int x31, .ref 51]) (pc2 := 217) op77_215 rfl rfl ?_
                  refine rx_p (L2 := [some (.ref 51), some (.int a1), some (.int a2), some (.int a3), some (.int a4), some (.int a5), some (.int a6), some (.int a7), some (.ref q8), some (.int a9), some (.int x5), some (.int r8), some (.int x18), some (.int x20), some (.int x25), some (.int x31)]) (S2 := [.int a6, .int x31, .ref 51]) (pc2 := 219) op77_217 rfl rfl ?_
                  refine rx_p (L2 := [some (.ref 51), some (.int a1), some (.int a2), some (.int a3), some (.int a4), some (.int a5), some (.int a6), some (.int a7), some (.ref q8), some (.int a9), some (.int x5), some (.int r8), some (.int x18), some (.int x20), some (.int x25), some (.int x31)]) (S2 := [.int r8, .int a6, .int x31, .ref 51]) (pc2 := 221) op77_219 rfl rfl ?_
                  refine rx_p (L2 := [some (.ref 51), some (.int a1), some (.int a2), some (.int a3), some (.int a4), some (.int a5), some (.int a6), some (.int a7), some (.ref q8), some (.int a9), some (.int x5), some (.int r8), some (.int x18), some (.int x20), some (.int x25), some (.int x31)]) (S2 := [.int (a6 ||| r8), .int x31, .ref 51]) (pc2 := 222) op77_221 rfl rfl ?_
                  obtain ⟨m60, f61, gc146⟩ := rq_bind gc146
                  try dsimp only at gc146
                  refine ry_iv (p := 51) (vs := [.int x31, .int (a6 ||| r8)]) (T := []) (pc2 := 225) op77_222 ms_86 (by decide) rfl rfl (Nat.le_of_ble_eq_true rfl) (Nat.le_of_ble_eq_true rfl) sp_51 (se_noteLess_ok xs (by omega)  f61) rfl ?_
                  show rn_R _ _ _ _ _ [] _ _ _
                  refine ry_go (tgt := 300) op77_225 (by decide) (by decide) ?_
                  cases gc146
                  exact c146 _ _ _ _ _ _
                · have gc146 := (if_neg b59).symm.trans gc146
                  refine rx_p (L2 := [some (.ref 51), some (.int a1), some (.int a2), some (.int a3), some (.int a4), some (.int a5), some (.int a6), some (.int a7), some (.ref q8), some (.int a9), some (.int x5), some (.int r8), some (.int x18), some (.int x20), some (.int x25), some (.int x31)]) (S2 := [.ref 51]) (pc2 := 229) op77_228 rfl rfl ?_
                  refine rx_p (L2 := [some (.ref 51), some (.int a1), some (.int a2), some (.int a3), some (.int a4), some (.int a5), some (.int a6), some (.int a7), some (.ref q8), some (.int a9), some (.int x5), some (.int r8), some (.int x18), some (.int x20), some (.int x25), some (.int x31)]) (S2 := [.ref 51, .ref 51]) (pc2 := 230) op77_229 rfl rfl ?_
                  refine rx_gf (v := .int (m37.1 51 9)) (pc2 := 233) op77_230 sp_51 rfl rfl rfl ?_
                  refine rx_p (L2 := [some (.ref 51), some (.int a1), some (.int a2), some (.int a3), some (.int a4), some (.int a5), some (.int a6), some (.int a7), some (.ref q8), some (.int a9), some (.int x5), some (.int r8), some (.int x18), some (.int x20), some (.int x25), some (.int x31)]) (S2 := [.ref q8, .int (m37.1 51 9), .ref 51]) (pc2 := 235) op77_233 rfl rfl ?_
                  refine rx_gf (v := .int (m37.1 q8 1)) (pc2 := 238) op77_235 (hq8.1) rfl rfl rfl ?_
                  refine rx_p (L2 := [some (.ref 51), some (.int a1), some (.int a2), some (.int a3), some (.int a4), some (.int a5), some (.int a6), some (.int a7), some (.ref q8), some (.int a9), some (.int x5), some (.int r8), some (.int x18), some (.int x20), some (.int x25), some (.int x31)]) (S2 := [.int ((m37.1 51 9) ||| (m37.1 q8 1)), .ref 51]) (pc2 := 239) op77_238 rfl rfl ?_
                  obtain ⟨m62, em62, gc146⟩ := rq_bv gc146
                  refine rx_pf (m2 := m62) (pc2 := 242) op77_239 sp_51 rfl em62 rfl ?_
                  refine rx_p (L2 := [some (.ref 51), some (.int a1), some (.int a2), some (.int a3), some (.int a4), some (.int a5), some (.int a6), some (.int a7), some (.ref q8), some (.int a9), some (.int x5), some (.int r8), some (.int x18), some (.int x20), some (.int x25), some (.int x31)]) (S2 := [.ref 51]) (pc2 := 243) op77_242 rfl rfl ?_
                  refine rx_p (L2 := [some (.ref 51), some (.int a1), some (.int a2), some (.int a3), some (.int a4), some (.int a5), some (.int a6), some (.int a7), some (.ref q8), some (.int a9), some (.int x5), some (.int r8), some (.int x18), some (.int x20), some (.int x25), some (.int x31)]) (S2 := [.int a1, .ref 51]) (pc2 := 244) op77_243 rfl rfl ?_
                  refine rx_ic (v := 1) (pc2 := 245) op77_244 (by decide) rfl ?_
                  refine rx_p (L2 := [some (.ref 51), some (.int a1), some (.int a2), some (.int a3), some (.int a4), some (.int a5), some (.int a6), some (.int a7), some (.ref q8), some (.int a9), some (.int x5), some (.int r8), some (.int x18), some (.int x20), some (.int x25), some (.int x31)]) (S2 := [.int (a1 - 1), .ref 51]) (pc2 := 246) op77_245 rfl rfl ?_
                  refine rx_p (L2 := [some (.ref 51), some (.int a1), some (.int a2), some (.int a3), some (.int a4), some (.int a5), some (.int a6), some (.int a7), some (.ref q8), some (.int a9), some (.int x5), some (.int r8), some (.int x18), some (.int x20), some (.int x25), some (.int x31)]) (S2 := [.ref 51, .int (a1 - 1), .ref 51]) (pc2 := 247) op77_246 rfl rfl ?_
                  refine rx_gf (v := .ref 52) (pc2 := 250) op77_247 sp_51 rfl rfl rfl ?_
                  refine rx_gf (v := .int (m62.1 52 6)) (pc2 := 253) op77_250 sp_52 rfl rfl rfl ?_
                  obtain ⟨⟨x69, m70⟩, gc74, gc146⟩ := rq_bind gc146
                  try dsimp only at gc146
                  have c74 : ∀ (o67 o68 : Option Value), rn_R xs (d + 1) 77 270 [some (.ref 51), some (.int a1), some (.int a2), some (.int a3), some (.int a4), some (.int a5), some (.int a6), some (.int a7), some (.ref q8), some (.int a9), o67, some (.int r8), some (.int x18), some (.int x20), some (.int x25), o68] [.int x69, .int (a1 - 1), .ref 51] (rn_SH, m70) r τ := by
                    intro o67 o68
                    refine rx_p (L2 := [some (.ref 51), some (.int a1), some (.int a2), some (.int a3), some (.int a4), some (.int a5), some (.int a6), some (.int a7), some (.ref q8), some (.int a9), o67, some (.int r8), some (.int x18), some (.int x20), some (.int x25), o68]) (S2 := [.int x20, .int x69, .int (a1 - 1), .ref 51]) (pc2 := 272) op77_270 rfl rfl ?_
                    refine rx_p (L2 := [some (.ref 51), some (.int a1), some (.int a2), some (.int a3), some (.int a4), some (.int a5), some (.int a6), some (.int a7), some (.ref q8), some (.int a9), o67, some (.int r8), some (.int x18), some (.int x20), some (.int x25), o68]) (S2 := [.int x18, .int x20, .int x69, .int (a1 - 1), .ref 51]) (pc2 := 274) op77_272 rfl rfl ?_
                    refine rx_p (L2 := [some (.ref 51), some (.int a1), some (.int a2), some (.int a3), some (.int a4), some (.int a5), some (.int a6), some (.int a7), some (.ref q8), some (.int a9), o67, some (.int r8), some (.int x18), some (.int x20), some (.int x25), o68]) (S2 := [.int a6, .int x18, .int x20, .int x69, .int (a1 - 1), .ref 51]) (pc2 := 276) op77_274 rfl rfl ?_
                    refine rx_p (L2 := [some (.ref 51), some (.int a1), some (.int a2), some (.int a3), some (.int a4), some (.int a5), some (.int a6), some (.int a7), some (.ref q8), some (.int a9), o67, some (.int r8), some (.int x18), some (.int x20), some (.int x25), o68]) (S2 := [.int r8, .int a6, .int x18, .int x20, .int x69, .int (a1 - 1), .ref 51]) (pc2 := 278) op77_276 rfl rfl ?_
                    refine rx_p (L2 := [some (.ref 51), some (.int a1), some (.int a2), some (.int a3), some (.int a4), some (.int a5), some (.int a6), some (.int a7), some (.ref q8), some (.int a9), o67, some (.int r8), some (.int x18), some (.int x20), some (.int x25), o68]) (S2 := [.int (a6 ||| r8), .int x18, .int x20, .int x69, .int (a1 - 1), .ref 51]) (pc2 := 279) op77_278 rfl rfl ?_
                    refine rx_p (L2 := [some (.ref 51), some (.int a1), some (.int a2), some (.int a3), some (.int a4), some (.int a5), some (.int a6), some (.int a7), some (.ref q8), some (.int a9), o67, some (.int r8), some (.int x18), some (.int x20), some (.int x25), o68]) (S2 := [.int x25, .int (a6 ||| r8), .int x18, .int x20, .int x69, .int (a1 - 1), .ref 51]) (pc2 := 281) op77_279 rfl rfl ?_
                    obtain ⟨m71, f72, gc146⟩ := rq_bind gc146
                    try dsimp only at gc146
                    refine ry_iv (p := 51) (vs := [.int (a1 - 1), .int x69, .int x20, .int x18, .int (a6 ||| r8), .int x25]) (T := []) (pc2 := 284) op77_281 ms_76 (by decide) rfl rfl (Nat.le_of_ble_eq_true rfl) (Nat.le_of_ble_eq_true rfl) sp_51 (hrec  f72) rfl ?_
                    show rn_R _ _ _ _ _ [] _ _ _
                    refine rx_p (L2 := [some (.ref 51), some (.int a1), some (.int a2), some (.int a3), some (.int a4), some (.int a5), some (.int a6), some (.int a7), some (.ref q8), some (.int a9), o67, some (.int r8), some (.int x18), some (.int x20), some (.int x25), o68]) (S2 := [.ref 51]) (pc2 := 285) op77_284 rfl rfl ?_
                    refine rx_p (L2 := [some (.ref 51), some (.int a1), some (.int a2), some (.int a3), some (.int a4), some (.int a5), some (.int a6), some (.int a7), some (.ref q8), some (.int a9), o67, some (.int r8), some (.int x18), some (.int x20), some (.int x25), o68]) (S2 := [.ref 51, .ref 51]) (pc2 := 286) op77_285 rfl rfl ?_
                    refine rx_gf (v := .int (m71.1 51 9)) (pc2 := 289) op77_286 sp_51 rfl rfl rfl ?_
                    refine rx_p (L2 := [some (.ref 51), some (.int a1), some (.int a2), some (.int a3), some (.int a4), some (.int a5), some (.int a6), some (.int a7), some (.ref q8), some (.int a9), o67, some (.int r8), some (.int x18), some (.int x20), some (.int x25), o68]) (S2 := [.ref q8, .int (m71.1 51 9), .ref 51]) (pc2 := 291) op77_289 rfl rfl ?_
                    refine rx_gf (v := .int (m71.1 q8 1)) (pc2 := 294) op77_291 (hq8.1) rfl rfl rfl ?_
                    refine rx_ic (v := (-1)) (pc2 := 295) op77_294 (by decide) rfl ?_
                    refine rx_p (L2 := [some (.ref 51), some (.int a1), some (.int a2), some (.int a3), some (.int a4), some (.int a5), some (.int a6), some (.int a7), some (.ref q8), some (.int a9), o67, some (.int r8), some (.int x18), some (.int x20), some (.int x25), o68]) (S2 := [.int ((m71.1 q8 1) ^^^ (-1)), .int (m71.1 51 9), .ref 51]) (pc2 := 296) op77_295 rfl rfl ?_
                    refine rx_p (L2 := [some (.ref 51), some (.int a1), some (.int a2), some (.int a3), some (.int a4), some (.int a5), some (.int a6), some (.int a7), some (.ref q8), some (.int a9), o67, some (.int r8), some (.int x18), some (.int x20), some (.int x25), o68]) (S2 := [.int ((m71.1 51 9) &&& ((m71.1 q8 1) ^^^ (-1))), .ref 51]) (pc2 := 297) op77_296 rfl rfl ?_
                    obtain ⟨m73, em73, gc146⟩ := rq_bv gc146
                    refine rx_pf (m2 := m73) (pc2 := 300) op77_297 sp_51 rfl em73 rfl ?_
                    cases gc146
                    exact c146 _ _ _ _ _ _
                  refine ry_if_ne (tgt := 261) (pc2 := 256) op77_253 (by decide) (by decide) rfl (fun b63 => ?_) (fun b63 => ?_)
                  · have gc74 := (if_pos b63).symm.trans gc74
                    refine rx_p (L2 := [some (.ref 51), some (.int a1), some (.int a2), some (.int a3), some (.int a4), some (.int a5), some (.int a6), some (.int a7), some (.ref q8), some (.int a9), some (.int x5), some (.int r8), some (.int x18), some (.int x20), some (.int x25), some (.int x31)]) (S2 := [.int x5, .int (a1 - 1), .ref 51]) (pc2 := 258) op77_256 rfl rfl ?_
                    refine ry_go (tgt := 270) op77_258 (by decide) (by decide) ?_
                    cases gc74
                    exact c74 _ _
                  · have gc74 := (if_neg b63).symm.trans gc74
                    refine rx_p (L2 := [some (.ref 51), some (.int a1), some (.int a2), some (.int a3), some (.int a4), some (.int a5), some (.int a6), some (.int a7), some (.ref q8), some (.int a9), some (.int x5), some (.int r8), some (.int x18), some (.int x20), some (.int x25), some (.int x31)]) (S2 := [.ref 51, .int (a1 - 1), .ref 51]) (pc2 := 262) op77_261 rfl rfl ?_
                    refine rx_gf (v := .ref 52) (pc2 := 265) op77_262 sp_51 rfl rfl rfl ?_
                    refine rx_p (L2 := [some (.ref 51), some (.int a1), some (.int a2), some (.int a3), some (.int a4), some (.int a5), some (.int a6), some (.int a7), some (.ref q8), some (.int a9), some (.int x5), some (.int r8), some (.int x18), some (.int x20), some (.int x25), some (.int x31)]) (S2 := [.int x5, .ref 52, .int (a1 - 1), .ref 51]) (pc2 := 267) op77_265 rfl rfl ?_
                    obtain ⟨⟨r65, m64⟩, f66, gc74⟩ := rq_bind gc74
                    try dsimp only at gc74
                    refine ry_iv (p := 52) (vs := [.int x5]) (T := [.int (a1 - 1), .ref 51]) (pc2 := 270) op77_267 ms_87 (by decide) rfl rfl (Nat.le_of_ble_eq_true rfl) (Nat.le_of_ble_eq_true rfl) sp_52 (ga_previous_ok xs (by omega) sa_52 f66) rfl ?_
                    show rn_R _ _ _ _ _ [.int r65, .int (a1 - 1), .ref 51] _ _ _
                    cases gc74
                    exact c74 _ _
          refine ry_ic_ne (tgt := 154) (pc2 := 146) op77_143 (by decide) (by decide) rfl (fun b26 => ?_) (fun b26 => ?_)
          · have gc75 := (if_pos b26).symm.trans gc75
            refine rx_p (L2 := [some (.ref 51), some (.int a1), some (.int a2), some (.int a3), some (.int a4), some (.int a5), some (.int a6), some (.int a7), some (.ref q8), some (.int a9), some (.int x5), some (.int r8), some (.int x18), some (.int x20), some (.int x25), o15]) (S2 := [.int x25]) (pc2 := 148) op77_146 rfl rfl ?_
            obtain ⟨⟨r28, m27⟩, f29, gc75⟩ := rq_bind gc75
            try dsimp only at gc75
            refine ry_is (vs := [.int x25]) (T := []) (pc2 := 151) op77_148 (by decide) ms_82 (by decide) rfl rfl (Nat.le_of_ble_eq_true rfl) (Nat.le_of_ble_eq_true rfl) (se_rankOf_ok xs (by omega)  f29) rfl ?_
            show rn_R _ _ _ _ _ [.int r28] _ _ _
            refine ry_go (tgt := 156) op77_151 (by decide) (by decide) ?_
            cases gc75
            exact c75 _
          · have gc75 := (if_neg b26).symm.trans gc75
            refine rx_p (L2 := [some (.ref 51), some (.int a1), some (.int a2), some (.int a3), some (.int a4), some (.int a5), some (.int a6), some (.int a7), some (.ref q8), some (.int a9), some (.int x5), some (.int r8), some (.int x18), some (.int x20), some (.int x25), o15]) (S2 := [.int x18]) (pc2 := 156) op77_154 rfl rfl ?_
            cases gc75
            exact c75 _
        · have gc146 := (if_neg b14).symm.trans gc146
          refine rx_p (L2 := [some (.ref 51), some (.int a1), some (.int a2), some (.int a3), some (.int a4), some (.int a5), some (.int a6), some (.int a7), some (.ref q8), some (.int a9), some (.int x5), some (.int r8), o12, o13, o14, o15]) (S2 := [.ref 51]) (pc2 := 70) op77_69 rfl rfl ?_
          refine rx_gf (v := .int (m10.1 51 10)) (pc2 := 73) op77_70 sp_51 rfl rfl rfl ?_
          refine rx_ic (v := 2) (pc2 := 74) op77_73 (by decide) rfl ?_
          refine ry_ic_eq (tgt := 80) (pc2 := 77) op77_74 (by decide) (by decide) rfl (fun b76 => ?_) (fun b76 => ?_)
          · have gc146 := (if_pos b76).symm.trans gc146
            refine rx_p (L2 := [some (.ref 51), some (.int a1), some (.int a2), some (.int a3), some (.int a4), some (.int a5), some (.int a6), some (.int a7), some (.ref q8), some (.int a9), some (.int x5), some (.int r8), o12, o13, o14, o15]) (S2 := [.int a5]) (pc2 := 82) op77_80 rfl rfl ?_
            refine rx_p (L2 := [some (.ref 51), some (.int a1), some (.int a2), some (.int a3), some (.int a4), some (.int a5), some (.int a6), some (.int a7), some (.ref q8), some (.int a9), some (.int x5), some (.int r8), o12, o13, o14, o15]) (S2 := [.int r8, .int a5]) (pc2 := 84) op77_82 rfl rfl ?_
            obtain ⟨⟨r78, m77⟩, f79, gc146⟩ := rq_bind gc146
            try dsimp only at gc146
            refine ry_is (vs := [.int r8]) (T := [.int a5]) (pc2 := 87) op77_84 (by decide) ms_80 (by decide) rfl rfl (Nat.le_of_ble_eq_true rfl) (Nat.le_of_ble_eq_true rfl) (ja_bitCount_ok xs (by omega)  f79) rfl ?_
            show rn_R _ _ _ _ _ [.int r78, .int a5] _ _ _
            refine rx_p (L2 := [some (.ref 51), some (.int a1), some (.int a2), some (.int a3), some (.int a4), some (.int a5), some (.int a6), some (.int a7), some (.ref q8), some (.int a9), some (.int x5), some (.int r8), o12, o13, o14, o15]) (S2 := [.int (a5 + r78)]) (pc2 := 88) op77_87 rfl rfl ?_
            obtain ⟨x80, ex80, gc146⟩ := rq_bv gc146
            refine rx_s (v := x80) (L2 := [some (.ref 51), some (.int a1), some (.int a2), some (.int a3), some (.int a4), some (.int a5), some (.int a6), some (.int a7), some (.ref q8), some (.int a9), some (.int x5), some (.int r8), some (.int x80), o13, o14, o15]) (pc2 := 90) op77_88 ex80 rfl rfl ?_
            refine rx_p (L2 := [some (.ref 51), some (.int a1), some (.int a2), some (.int a3), some (.int a4), some (.int a5), some (.int a6), some (.int a7), some (.ref q8), some (.int a9), some (.int x5), some (.int r8), some (.int x80), o13, o14, o15]) (S2 := [.int a4]) (pc2 := 92) op77_90 rfl rfl ?_
            refine rx_p (L2 := [some (.ref 51), some (.int a1), some (.int a2), some (.int a3), some (.int a4), some (.int a5), some (.int a6), some (.int a7), some (.ref q8), some (.int a9), some (.int x5), some (.int r8), some (.int x80), o13, o14, o15]) (S2 := [.ref q8, .int a4]) (pc2 := 94) op77_92 rfl rfl ?_
            refine rx_gf (v := .ref (q8 + 3)) (pc2 := 97) op77_94 (hq8.1) rfl rfl rfl ?_
            refine rx_p (L2 := [some (.ref 51), some (.int a1), some (.int a2), some (.int a3), some (.int a4), some (.int a5), some (.int a6), some (.int a7), some (.ref q8), some (.int a9), some (.int x5), some (.int r8), some (.int x80), o13, o14, o15]) (S2 := [.int a9, .ref (q8 + 3), .int a4]) (pc2 := 99) op77_97 rfl rfl ?_
            obtain ⟨k81, gc146⟩ := rq_chk gc146
            refine rx_ia (pc2 := 100) op77_99 (rn_shlt (hq8.2.2.2.1)) (hq8.2.2.2.1) k81 rfl rfl ?_
            refine rx_p (L2 := [some (.ref 51), some (.int a1), some (.int a2), some (.int a3), some (.int a4), some (.int a5), some (.int a6), some (.int a7), some (.ref q8), some (.int a9), some (.int x5), some (.int r8), some (.int x80), o13, o14, o15]) (S2 := [.int (a4 ||| (m77.1 (q8 + 3) a9.toNatClampNeg))]) (pc2 := 101) op77_100 rfl rfl ?_
            obtain ⟨x82, ex82, gc146⟩ := rq_bv gc146
            refine rx_s (v := x82) (L2 := [some (.ref 51), some (.int a1), some (.int a2), some (.int a3), some (.int a4), some (.int a5), some (.int a6), some (.int a7), some (.ref q8), some (.int a9), some (.int x5), some (.int r8), some (.int x80), some (.int x82), o14, o15]) (pc2 := 103) op77_101 ex82 rfl rfl ?_
            refine rx_p (L2 := [some (.ref 51), some (.int a1), some (.int a2), some (.int a3), some (.int a4), some (.int a5), some (.int a6), some (.int a7), some (.ref q8), some (.int a9), some (.int x5), some (.int r8), some (.int x80), some (.int x82), o14, o15]) (S2 := [.int a7]) (pc2 := 105) op77_103 rfl rfl ?_
            refine rx_p (L2 := [some (.ref 51), some (.int a1), some (.int a2), some (.int a3), some (.int a4), some (.int a5), some (.int a6), some (.int a7), some (.ref q8), some (.int a9), some (.int x5), some (.int r8), some (.int x80), some (.int x82), o14, o15]) (S2 := [.ref q8, .int a7]) (pc2 := 107) op77_105 rfl rfl ?_
            refine rx_gf (v := .ref (q8 + 4)) (pc2 := 110) op77_107 (hq8.1) rfl rfl rfl ?_
            refine rx_p (L2 := [some (.ref 51), some (.int a1), some (.int a2), some (.int a3), some (.int a4), some (.int a5), some (.int a6), some (.int a7), some (.ref q8), some (.int a9), some (.int x5), some (.int r8), some (.int x80), some (.int x82), o14, o15]) (S2 := [.int a9, .ref (q8 + 4), .int a7]) (pc2 := 112) op77_110 rfl rfl ?_
            obtain ⟨k83, gc146⟩ := rq_chk gc146
            refine rx_ia (pc2 := 113) op77_112 (rn_shlt (hq8.2.2.2.2.1)) (hq8.2.2.2.2.1) k83 rfl rfl ?_
            refine rx_p (L2 := [some (.ref 51), some (.int a1), some (.int a2), some (.int a3), some (.int a4), some (.int a5), some (.int a6), some (.int a7), some (.ref q8), some (.int a9), some (.int x5), some (.int r8), some (.int x80), some (.int x82), o14, o15]) (S2 := [.int (a7 ||| (m77.1 (q8 + 4) a9.toNatClampNeg))]) (pc2 := 114) op77_113 rfl rfl ?_
            refine rx_p (L2 := [some (.ref 51), some (.int a1), some (.int a2), some (.int a3), some (.int a4), some (.int a5), some (.int a6), some (.int a7), some (.ref q8), some (.int a9), some (.int x5), some (.int r8), some (.int x80), some (.int x82), o14, o15]) (S2 := [.ref 51, .int (a7 ||| (m77.1 (q8 + 4) a9.toNatClampNeg))]) (pc2 := 115) op77_114 rfl rfl ?_
            refine rx_gf (v := .ref 57) (pc2 := 118) op77_115 sp_51 rfl rfl rfl ?_
            refine rx_p (L2 := [some (.ref 51), some (.int a1), some (.int a2), some (.int a3), some (.int a4), some (.int a5), some (.int a6), some (.int a7), some (.ref q8), some (.int a9), some (.int x5), some (.int r8), some (.int x80), some (.int x82), o14, o15]) (S2 := [.int a1, .ref 57, .int (a7 ||| (m77.1 (q8 + 4) a9.toNatClampNeg))]) (pc2 := 119) op77_118 rfl rfl ?_
            refine rx_p (L2 := [some (.ref 51), some (.int a1), some (.int a2), some (.int a3), some (.int a4), some (.int a5), some (.int a6), some (.int a7), some (.ref q8), some (.int a9), some (.int x5), some (.int r8), some (.int x80), some (.int x82), o14, o15]) (S2 := [.int x5, .int a1, .ref 57, .int (a7 ||| (m77.1 (q8 + 4) a9.toNatClampNeg))]) (pc2 := 121) op77_119 rfl rfl ?_
            refine rx_p (L2 := [some (.ref 51), some (.int a1), some (.int a2), some (.int a3), some (.int a4), some (.int a5), some (.int a6), some (.int a7), some (.ref q8), some (.int a9), some (.int x5), some (.int r8), some (.int x80), some (.int x82), o14, o15]) (S2 := [.ref q8, .int x5, .int a1, .ref 57, .int (a7 ||| (m77.1 (q8 + 4) a9.toNatClampNeg))]) (pc2 := 123) op77_121 rfl rfl ?_
            refine rx_gf (v := .int (m77.1 q8 1)) (pc2 := 126) op77_123 (hq8.1) rfl rfl rfl ?_
            refine rx_p (L2 := [some (.ref 51), some (.int a1), some (.int a2), some (.int a3), some (.int a4), some (.int a5), some (.int a6), some (.int a7), some (.ref q8), some (.int a9), some (.int x5), some (.int r8), some (.int x80), some (.int x82), o14, o15]) (S2 := [.ref 51, .int (m77.1 q8 1), .int x5, .int a1, .ref 57, .int (a7 ||| (m77.1 (q8 + 4) a9.toNatClampNeg))]) (pc2 := 127) op77_126 rfl rfl ?_
            refine rx_gf (v := .int (m77.1 51 9)) (pc2 := 130) op77_127 sp_51 rfl rfl rfl ?_
            refine rx_p (L2 := [some (.ref 51), some (.int a1), some (.int a2), some (.int a3), some (.int a4), some (.int a5), some (.int a6), some (.int a7), some (.ref q8), some (.int a9), some (.int x5), some (.int r8), some (.int x80), some (.int x82), o14, o15]) (S2 := [.int x82, .int (m77.1 51 9), .int (m77.1 q8 1), .int x5, .int a1, .ref 57, .int (a7 ||| (m77.1 (q8 + 4) a9.toNatClampNeg))]) (pc2 := 132) op77_130 rfl rfl ?_
            obtain ⟨⟨r85, m84⟩, f86, gc146⟩ := rq_bind gc146
            try dsimp only at gc146
            refine ry_iv (p := 57) (vs := [.int a1, .int x5, .int (m77.1 q8 1), .int (m77.1 51 9), .int x82]) (T := [.int (a7 ||| (m77.1 (q8 + 4) a9.toNatClampNeg))]) (pc2 := 135) op77_132 ms_81 (by decide) rfl rfl (Nat.le_of_ble_eq_true rfl) (Nat.le_of_ble_eq_true rfl) sp_57 (cl_againstTrick_ok xs (by omega) sa_57 f86) rfl ?_
            show rn_R _ _ _ _ _ [.int r85, .int (a7 ||| (m77.1 (q8 + 4) a9.toNatClampNeg))] _ _ _
            refine rx_p (L2 := [some (.ref 51), some (.int a1), some (.int a2), some (.int a3), some (.int a4), some (.int a5), some (.int a6), some (.int a7), some (.ref q8), some (.int a9), some (.int x5), some (.int r8), some (.int x80), some (.int x82), o14, o15]) (S2 := [.int ((a7 ||| (m77.1 (q8 + 4) a9.toNatClampNeg)) ||| r85)]) (pc2 := 136) op77_135 rfl rfl ?_
            obtain ⟨x87, ex87, gc146⟩ := rq_bv gc146
            refine rx_s (v := x87) (L2 := [some (.ref 51), some (.int a1), some (.int a2), some (.int a3), some (.int a4), some (.int a5), some (.int a6), some (.int a7), some (.ref q8), some (.int a9), some (.int x5), some (.int r8), some (.int x80), some (.int x82), some (.int x87), o15]) (pc2 := 138) op77_136 ex87 rfl rfl ?_
            refine rx_p (L2 := [some (.ref 51), some (.int a1), some (.int a2), some (.int a3), some (.int a4), some (.int a5), some (.int a6), some (.int a7), some (.ref q8), some (.int a9), some (.int x5), some (.int r8), some (.int x80), some (.int x82), some (.int x87), o15]) (S2 := [.ref 51]) (pc2 := 139) op77_138 rfl rfl ?_
            refine rx_gf (v := .int (m84.1 51 10)) (pc2 := 142) op77_139 sp_51 rfl rfl rfl ?_
            refine rx_ic (v := 1) (pc2 := 143) op77_142 (by decide) rfl ?_
            obtain ⟨⟨x93, m94⟩, gc137, gc146⟩ := rq_bind gc146
            try dsimp only at gc146
            have c137 : ∀ (o92 : Option Value), rn_R xs (d + 1) 77 156 [some (.ref 51), some (.int a1), some (.int a2), some (.int a3), some (.int a4), some (.int a5), some (.int a6), some (.int a7), some (.ref q8), some (.int a9), some (.int x5), some (.int r8), some (.int x80), some (.int x82), some (.int x87), o92] [.int x93] (rn_SH, m94) r τ := by
              intro o92
              refine rx_s (L2 := [some (.ref 51), some (.int a1), some (.int a2), some (.int a3), some (.int a4), some (.int a5), some (.int a6), some (.int a7), some (.ref q8), some (.int a9), some (.int x5), some (.int r8), some (.int x80), some (.int x82), some (.int x87), some (.int x93)]) (pc2 := 158) op77_156 rfl rfl rfl ?_
              refine rx_p (L2 := [some (.ref 51), some (.int a1), some (.int a2), some (.int a3), some (.int a4), some (.int a5), some (.int a6), some (.int a7), some (.ref q8), some (.int a9), some (.int x5), some (.int r8), some (.int x80), some (.int x82), some (.int x87), some (.int x93)]) (S2 := [.ref 51]) (pc2 := 159) op77_158 rfl rfl ?_
              refine rx_p (L2 := [some (.ref 51), some (.int a1), some (.int a2), some (.int a3), some (.int a4), some (.int a5), some (.int a6), some (.int a7), some (.ref q8), some (.int a9), some (.int x5), some (.int r8), some (.int x80), some (.int x82), some (.int x87), some (.int x93)]) (S2 := [.int x93, .ref 51]) (pc2 := 161) op77_159 rfl rfl ?_
              refine rx_p (L2 := [some (.ref 51), some (.int a1), some (.int a2), some (.int a3), some (.int a4), some (.int a5), some (.int a6), some (.int a7), some (.ref q8), some (.int a9), some (.int x5), some (.int r8), some (.int x80), some (.int x82), some (.int x87), some (.int x93)]) (S2 := [.int a6, .int x93, .ref 51]) (pc2 := 163) op77_161 rfl rfl ?_
              refine rx_p (L2 := [some (.ref 51), some (.int a1), some (.int a2), some (.int a3), some (.int a4), some (.int a5), some (.int a6), some (.int a7), some (.ref q8), some (.int a9), some (.int x5), some (.int r8), some (.int x80), some (.int x82), some (.int x87), some (.int x93)]) (S2 := [.int r8, .int a6, .int x93, .ref 51]) (pc2 := 165) op77_163 rfl rfl ?_
              refine rx_p (L2 := [some (.ref 51), some (.int a1), some (.int a2), some (.int a3), some (.int a4), some (.int a5), some (.int a6), some (.int a7), some (.ref q8), some (.int a9), some (.int x5), some (.int r8), some (.int x80), some (.int x82), some (.int x87), some (.int x93)]) (S2 := [.int (a6 ||| r8), .int x93, .ref 51]) (pc2 := 166) op77_165 rfl rfl ?_
              refine rx_p (L2 := [some (.ref 51), some (.int a1), some (.int a2), some (.int a3), some (.int a4), some (.int a5), some (.int a6), some (.int a7), some (.ref q8), some (.int a9), some (.int x5), some (.int r8), some (.int x80), some (.int x82), some (.int x87), some (.int x93)]) (S2 := [.int x87, .int (a6 ||| r8), .int x93, .ref 51]) (pc2 := 168) op77_166 rfl rfl ?_
              obtain ⟨⟨r96, m95⟩, f97, gc146⟩ := rq_bind gc146
              try dsimp only at gc146
              refine ry_iv (p := 51) (vs := [.int x93, .int (a6 ||| r8), .int x87]) (T := []) (pc2 := 171) op77_168 ms_83 (by decide) rfl rfl (Nat.le_of_ble_eq_true rfl) (Nat.le_of_ble_eq_true rfl) sp_51 (se_promises_ok xs (by omega)  f97) rfl ?_
              show rn_R _ _ _ _ _ [.int r96] _ _ _
              refine ry_if_ne (tgt := 177) (pc2 := 174) op77_171 (by decide) (by decide) rfl (fun b98 => ?_) (fun b98 => ?_)
              · have gc146 := (if_pos b98).symm.trans gc146
                refine ry_go (tgt := 300) op77_174 (by decide) (by decide) ?_
                cases gc146
                exact c146 _ _ _ _ _ _
              · have gc146 := (if_neg b98).symm.trans gc146
                refine rx_p (L2 := [some (.ref 51), some (.int a1), some (.int a2), some (.int a3), some (.int a4), some (.int a5), some (.int a6), some (.int a7), some (.ref q8), some (.int a9), some (.int x5), some (.int r8), some (.int x80), some (.int x82), some (.int x87), some (.int x93)]) (S2 := [.ref 51]) (pc2 := 178) op77_177 rfl rfl ?_
                refine rx_gf (v := .ref 67) (pc2 := 181) op77_178 sp_51 rfl rfl rfl ?_
                refine rx_p (L2 := [some (.ref 51), some (.int a1), some (.int a2), some (.int a3), some (.int a4), some (.int a5), some (.int a6), some (.int a7), some (.ref q8), some (.int a9), some (.int x5), some (.int r8), some (.int x80), some (.int x82), some (.int x87), some (.int x93)]) (S2 := [.int a1, .ref 67]) (pc2 := 182) op77_181 rfl rfl ?_
                refine rx_p (L2 := [some (.ref 51), some (.int a1), some (.int a2), some (.int a3), some (.int a4), some (.int a5), some (.int a6), some (.int a7), some (.ref q8), some (.int a9), some (.int x5), some (.int r8), some (.int x80), some (.int x82), some (.int x87), some (.int x93)]) (S2 := [.int a2, .int a1, .ref 67]) (pc2 := 183) op77_182 rfl rfl ?_
                refine rx_bp (v := 24) (pc2 := 185) op77_183 (by decide) rfl ?_
                refine rx_p (L2 := [some (.ref 51), some (.int a1), some (.int a2), some (.int a3), some (.int a4), some (.int a5), some (.int a6), some (.int a7), some (.ref q8), some (.int a9), some (.int x5), some (.int r8), some (.int x80), some (.int x82), some (.int x87), some (.int x93)]) (S2 := [.int (a2 * 24), .int a1, .ref 67]) (pc2 := 186) op77_185 rfl rfl ?_
                refine rx_p (L2 := [some (.ref 51), some (.int a1), some (.int a2), some (.int a3), some (.int a4), some (.int a5), some (.int a6), some (.int a7), some (.ref q8), some (.int a9), some (.int x5), some (.int r8), some (.int x80), some (.int x82), some (.int x87), some (.int x93)]) (S2 := [.int a9, .int (a2 * 24), .int a1, .ref 67]) (pc2 := 188) op77_186 rfl rfl ?_
                refine rx_p (L2 := [some (.ref 51), some (.int a1), some (.int a2), some (.int a3), some (.int a4), some (.int a5), some (.int a6), some (.int a7), some (.ref q8), some (.int a9), some (.int x5), some (.int r8), some (.int x80), some (.int x82), some (.int x87), some (.int x93)]) (S2 := [.int ((a2 * 24) + a9), .int a1, .ref 67]) (pc2 := 189) op77_188 rfl rfl ?_
                obtain ⟨k100, gc146⟩ := rq_chk gc146
                obtain ⟨m99, em99, gc146⟩ := rq_bv gc146
                refine rx_is (m2 := m99) (pc2 := 190) op77_189 sp_67 k100 rfl em99 rfl ?_
                refine rx_p (L2 := [some (.ref 51), some (.int a1), some (.int a2), some (.int a3), some (.int a4), some (.int a5), some (.int a6), some (.int a7), some (.ref q8), some (.int a9), some (.int x5), some (.int r8), some (.int x80), some (.int x82), some (.int x87), some (.int x93)]) (S2 := [.int a1]) (pc2 := 191) op77_190 rfl rfl ?_
                refine ry_if_ne (tgt := 210) (pc2 := 194) op77_191 (by decide) (by decide) rfl (fun b101 => ?_) (fun b101 => ?_)
                · have gc146 := (if_pos b101).symm.trans gc146
                  refine rx_p (L2 := [some (.ref 51), some (.int a1), some (.int a2), some (.int a3), some (.int a4), some (.int a5), some (.int a6), some (.int a7), some (.ref q8), some (.int a9), some (.int x5), some (.int r8), some (.int x80), some (.int x82), some (.int x87), some (.int x93)]) (S2 := [.ref 51]) (pc2 := 195) op77_194 rfl rfl ?_
                  refine rx_gf (v := .int (m99.1 51 10)) (pc2 := 198) op77_195 sp_51 rfl rfl rfl ?_
                  refine ry_if_ne (tgt := 210) (pc2 := 201) op77_198 (by decide) (by decide) rfl (fun b102 => ?_) (fun b102 => ?_)
                  · have gc146 := (if_pos b102).symm.trans gc146
                    refine rx_p (L2 := [some (.ref 51), some (.int a1), some (.int a2), some (.int a3), some (.int a4), some (.int a5), some (.int a6), some (.int a7), some (.ref q8), some (.int a9), some (.int x5), some (.int r8), some (.int x80), some (.int x82), some (.int x87), some (.int x93)]) (S2 := [.ref 51]) (pc2 := 202) op77_201 rfl rfl ?_
                    refine rx_p (L2 := [some (.ref 51), some (.int a1), some (.int a2), some (.int a3), some (.int a4), some (.int a5), some (.int a6), some (.int a7), some (.ref q8), some (.int a9), some (.int x5), some (.int r8), some (.int x80), some (.int x82), some (.int x87), some (.int x93)]) (S2 := [.int x5, .ref 51]) (pc2 := 204) op77_202 rfl rfl ?_
                    obtain ⟨m103, f104, gc146⟩ := rq_bind gc146
                    try dsimp only at gc146
                    refine ry_iv (p := 51) (vs := [.int x5]) (T := []) (pc2 := 207) op77_204 ms_84 (by decide) rfl rfl (Nat.le_of_ble_eq_true rfl) (Nat.le_of_ble_eq_true rfl) sp_51 (se_notePlay_ok xs (by omega)  f104) rfl ?_
                    show rn_R _ _ _ _ _ [] _ _ _
                    refine ry_go (tgt := 300) op77_207 (by decide) (by decide) ?_
                    cases gc146
                    exact c146 _ _ _ _ _ _
                  · have gc146 := (if_neg b102).symm.trans gc146
                    refine rx_p (L2 := [some (.ref 51), some (.int a1), some (.int a2), some (.int a3), some (.int a4), some (.int a5), some (.int a6), some (.int a7), some (.ref q8), some (.int a9), some (.int x5), some (.int r8), some (.int x80), some (.int x82), some (.int x87), some (.int x93)]) (S2 := [.int a1]) (pc2 := 211) op77_210 rfl rfl ?_
                    refine ry_if_ne (tgt := 228) (pc2 := 214) op77_211 (by decide) (by decide) rfl (fun b105 => ?_) (fun b105 => ?_)
                    · have gc146 := (if_pos b105).symm.trans gc146
                      refine rx_p (L2 := [some (.ref 51), some (.int a1), some (.int a2), some (.int a3), some (.int a4), some (.int a5), some (.int a6), some (.int a7), some (.ref q8), some (.int a9), some (.int x5), some (.int r8), some (.int x80), some (.int x82), some (.int x87), some (.int x93)]) (S2 := [.ref 51]) (pc2 := 215) op77_214 rfl rfl ?_
                      refine rx_p (L2 := [some (.ref 51), some (.int a1), some (.int a2), some (.int a3), some (.int a4), some (.int a5), some (.int a6), some (.int a7), some (.ref q8), some (.int a9), some (.int x5), some (.int r8), some (.int x80), some (.int x82), some (.int x87), some (.int x93)]) (S2 := [.int x93, .ref 51]) (pc2 := 217) op77_215 rfl rfl ?_
                      refine rx_p (L2 := [some (.ref 51), some (.int a1), some (.int a2), some (.int a3), some (.int a4), some (.int a5), some (.int a6), some (.int a7), some (.ref q8), some (.int a9), some (.int x5), some (.int r8), some (.int x80), some (.int x82), some (.int x87), some (.int x93)]) (S2 := [.int a6, .int x93, .ref 51]) (pc2 := 219) op77_217 rfl rfl ?_
                      refine rx_p (L2 := [some (.ref 51), some (.int a1), some (.int a2), some (.int a3), some (.int a4), some (.int a5), some (.int a6), some (.int a7), some (.ref q8), some (.int a9), some (.int x5), some (.int r8), some (.int x80), some (.int x82), some (.int x87), some (.int x93)]) (S2 := [.int r8, .int a6, .int x93, .ref 51]) (pc2 := 221) op77_219 rfl rfl ?_
                      refine rx_p (L2 := [some (.ref 51), some (.int a1), some (.int a2), some (.int a3), some (.int a4), some (.int a5), some (.int a6), some (.int a7), some (.ref q8), some (.int a9), some (.int x5), some (.int r8), some (.int x80), some (.int x82), some (.int x87), some (.int x93)]) (S2 := [.int (a6 ||| r8), .int x93, .ref 51]) (pc2 := 222) op77_221 rfl rfl ?_
                      obtain ⟨m106, f107, gc146⟩ := rq_bind gc146
                      try dsimp only at gc146
                      refine ry_iv (p := 51) (vs := [.int x93, .int (a6 ||| r8)]) (T := []) (pc2 := 225) op77_222 ms_86 (by decide) rfl rfl (Nat.le_of_ble_eq_true rfl) (Nat.le_of_ble_eq_true rfl) sp_51 (se_noteLess_ok xs (by omega)  f107) rfl ?_
                      show rn_R _ _ _ _ _ [] _ _ _
                      refine ry_go (tgt := 300) op77_225 (by decide) (by decide) ?_
                      cases gc146
                      exact c146 _ _ _ _ _ _
                    · have gc146 := (if_neg b105).symm.trans gc146
                      refine rx_p (L2 := [some (.ref 51), some (.int a1), some (.int a2), some (.int a3), some (.int a4), some (.int a5), some (.int a6), some (.int a7), some (.ref q8), some (.int a9), some (.int x5), some (.int r8), some (.int x80), some (.int x82), some (.int x87), some (.int x93)]) (S2 := [.ref 51]) (pc2 := 229) op77_228 rfl rfl ?_
                      refine rx_p (L2 := [some (.ref 51), some (.int a1), some (.int a2), some (.int a3), some (.int a4), some (.int a5), some (.int a6), some (.int a7), some (.ref q8), some (.int a9), some (.int x5), some (.int r8), some (.int x80), some (.int x82), some (.int x87), some (.int x93)]) (S2 := [.ref 51, .ref 51]) (pc2 := 230) op77_229 rfl rfl ?_
                      refine rx_gf (v := .int (m99.1 51 9)) (pc2 := 233) op77_230 sp_51 rfl rfl rfl ?_
                      refine rx_p (L2 := [some (.ref 51), some (.int a1), some (.int a2), some (.int a3), some (.int a4), some (.int a5), some (.int a6), some (.int a7), some (.ref q8), some (.int a9), some (.int x5), some (.int r8), some (.int x80), some (.int x82), some (.int x87), some (.int x93)]) (S2 := [.ref q8, .int (m99.1 51 9), .ref 51]) (pc2 := 235) op77_233 rfl rfl ?_
                      refine rx_gf (v := .int (m99.1 q8 1)) (pc2 := 238) op77_235 (hq8.1) rfl rfl rfl ?_
                      refine rx_p (L2 := [some (.ref 51), some (.int a1), some (.int a2), some (.int a3), some (.int a4), some (.int a5), some (.int a6), some (.int a7), some (.ref q8), some (.int a9), some (.int x5), some (.int r8), some (.int x80), some (.int x82), some (.int x87), some (.int x93)]) (S2 := [.int ((m99.1 51 9) ||| (m99.1 q8 1)), .ref 51]) (pc2 := 239) op77_238 rfl rfl ?_
                      obtain ⟨m108, em108, gc146⟩ := rq_bv gc146
                      refine rx_pf (m2 := m108) (pc2 := 242) op77_239 sp_51 rfl em108 rfl ?_
                      refine rx_p (L2 := [some (.ref 51), some (.int a1), some (.int a2), some (.int a3), some (.int a4), some (.int a5), some (.int a6), some (.int a7), some (.ref q8), some (.int a9), some (.int x5), some (.int r8), some (.int x80), some (.int x82), some (.int x87), some (.int x93)]) (S2 := [.ref 51]) (pc2 := 243) op77_242 rfl rfl ?_
                      refine rx_p (L2 := [some (.ref 51), some (.int a1), some (.int a2), some (.int a3), some (.int a4), some (.int a5), some (.int a6), some (.int a7), some (.ref q8), some (.int a9), some (.int x5), some (.int r8), some (.int x80), some (.int x82), some (.int x87), some (.int x93)]) (S2 := [.int a1, .ref 51]) (pc2 := 244) op77_243 rfl rfl ?_
                      refine rx_ic (v := 1) (pc2 := 245) op77_244 (by decide) rfl ?_
                      refine rx_p (L2 := [some (.ref 51), some (.int a1), some (.int a2), some (.int a3), some (.int a4), some (.int a5), some (.int a6), some (.int a7), some (.ref q8), some (.int a9), some (.int x5), some (.int r8), some (.int x80), some (.int x82), some (.int x87), some (.int x93)]) (S2 := [.int (a1 - 1), .ref 51]) (pc2 := 246) op77_245 rfl rfl ?_
                      refine rx_p (L2 := [some (.ref 51), some (.int a1), some (.int a2), some (.int a3), some (.int a4), some (.int a5), some (.int a6), some (.int a7), some (.ref q8), some (.int a9), some (.int x5), some (.int r8), some (.int x80), some (.int x82), some (.int x87), some (.int x93)]) (S2 := [.ref 51, .int (a1 - 1), .ref 51]) (pc2 := 247) op77_246 rfl rfl ?_
                      refine rx_gf (v := .ref 52) (pc2 := 250) op77_247 sp_51 rfl rfl rfl ?_
                      refine rx_gf (v := .int (m108.1 52 6)) (pc2 := 253) op77_250 sp_52 rfl rfl rfl ?_
                      obtain ⟨⟨x115, m116⟩, gc120, gc146⟩ := rq_bind gc146
                      try dsimp only at gc146
                      have c120 : ∀ (o113 o114 : Option Value), rn_R xs (d + 1) 77 270 [some (.ref 51), some (.int a1), some (.int a2), some (.int a3), some (.int a4), some (.int a5), some (.int a6), some (.int a7), some (.ref q8), some (.int a9), o113, some (.int r8), some (.int x80), some (.int x82), some (.int x87), o114] [.int x115, .int (a1 - 1), .ref 51] (rn_SH, m116) r τ := by
                        intro o113 o114
                        refine rx_p (L2 := [some (.ref 51), some (.int a1), some (.int a2), some (.int a3), some (.int a4), some (.int a5), some (.int a6), some (.int a7), some (.ref q8), some (.int a9), o113, some (.int r8), some (.int x80), some (.int x82), some (.int x87), o114]) (S2 := [.int x82, .int x115, .int (a1 - 1), .ref 51]) (pc2 := 272) op77_270 rfl rfl ?_
                        refine rx_p (L2 := [some (.ref 51), some (.int a1), some (.int a2), some (.int a3), some (.int a4), some (.int a5), some (.int a6), some (.int a7), some (.ref q8), some (.int a9), o113, some (.int r8), some (.int x80), some (.int x82), some (.int x87), o114]) (S2 := [.int x80, .int x82, .int x115, .int (a1 - 1), .ref 51]) (pc2 := 274) op77_272 rfl rfl ?_
                        refine rx_p (L2 := [some (.ref 51), some (.int a1), some (.int a2), some (.int a3), some (.int a4), some (.int a5), some (.int a6), some (.int a7), some (.ref q8), some (.int a9), o113, some (.int r8), some (.int x80), some (.int x82), some (.int x87), o114]) (S2 := [.int a6, .int x80, .int x82, .int x115, .int (a1 - 1), .ref 51]) (pc2 := 276) op77_274 rfl rfl ?_
                        refine rx_p (L2 := [some (.ref 51), some (.int a1), some (.int a2), some (.int a3), some (.int a4), some (.int a5), some (.int a6), some (.int a7), some (.ref q8), some (.int a9), o113, some (.int r8), some (.int x80), some (.int x82), some (.int x87), o114]) (S2 := [.int r8, .int a6, .int x80, .int x82, .int x115, .int (a1 - 1), .ref 51]) (pc2 := 278) op77_276 rfl rfl ?_
                        refine rx_p (L2 := [some (.ref 51), some (.int a1), some (.int a2), some (.int a3), some (.int a4), some (.int a5), some (.int a6), some (.int a7), some (.ref q8), some (.int a9), o113, some (.int r8), some (.int x80), some (.int x82), some (.int x87), o114]) (S2 := [.int (a6 ||| r8), .int x80, .int x82, .int x115, .int (a1 - 1), .ref 51]) (pc2 := 279) op77_278 rfl rfl ?_
                        refine rx_p (L2 := [some (.ref 51), some (.int a1), some (.int a2), some (.int a3), some (.int a4), some (.int a5), some (.int a6), some (.int a7), some (.ref q8), some (.int a9), o113, some (.int r8), some (.int x80), some (.int x82), some (.int x87), o114]) (S2 := [.int x87, .int (a6 ||| r8), .int x80, .int x82, .int x115, .int (a1 - 1), .ref 51]) (pc2 := 281) op77_279 rfl rfl ?_
                        obtain ⟨m117, f118, gc146⟩ := rq_bind gc146
                        try dsimp only at gc146
                        refine ry_iv (p := 51) (vs := [.int (a1 - 1), .int x115, .int x82, .int x80, .int (a6 ||| r8), .int x87]) (T := []) (pc2 := 284) op77_281 ms_76 (by decide) rfl rfl (Nat.le_of_ble_eq_true rfl) (Nat.le_of_ble_eq_true rfl) sp_51 (hrec  f118) rfl ?_
                        show rn_R _ _ _ _ _ [] _ _ _
                        refine rx_p (L2 := [some (.ref 51), some (.int a1), some (.int a2), some (.int a3), some (.int a4), some (.int a5), some (.int a6), some (.int a7), some (.ref q8), some (.int a9), o113, some (.int r8), some (.int x80), some (.int x82), some (.int x87), o114]) (S2 := [.ref 51]) (pc2 := 285) op77_284 rfl rfl ?_
                        refine rx_p (L2 := [some (.ref 51), some (.int a1), some (.int a2), some (.int a3), some (.int a4), some (.int a5), some (.int a6), some (.int a7), some (.ref q8), some (.int a9), o113, some (.int r8), some (.int x80), some (.int x82), some (.int x87), o114]) (S2 := [.ref 51, .ref 51]) (pc2 := 286) op77_285 rfl rfl ?_
                        refine rx_gf (v := .int (m117.1 51 9)) (pc2 := 289) op77_286 sp_51 rfl rfl rfl ?_
                        refine rx_p (L2 := [some (.ref 51), some (.int a1), some (.int a2), some (.int a3), some (.int a4), some (.int a5), some (.int a6), some (.int a7), some (.ref q8), some (.int a9), o113, some (.int r8), some (.int x80), some (.int x82), some (.int x87), o114]) (S2 := [.ref q8, .int (m117.1 51 9), .ref 51]) (pc2 := 291) op77_289 rfl rfl ?_
                        refine rx_gf (v := .int (m117.1 q8 1)) (pc2 := 294) op77_291 (hq8.1) rfl rfl rfl ?_
                        refine rx_ic (v := (-1)) (pc2 := 295) op77_294 (by decide) rfl ?_
                        refine rx_p (L2 := [some (.ref 51), some (.int a1), some (.int a2), some (.int a3), some (.int a4), some (.int a5), some (.int a6), some (.int a7), some (.ref q8), some (.int a9), o113, some (.int r8), some (.int x80), some (.int x82), some (.int x87), o114]) (S2 := [.int ((m117.1 q8 1) ^^^ (-1)), .int (m117.1 51 9), .ref 51]) (pc2 := 296) op77_295 rfl rfl ?_
                        refine rx_p (L2 := [some (.ref 51), some (.int a1), some (.int a2), some (.int a3), some (.int a4), some (.int a5), some (.int a6), some (.int a7), some (.ref q8), some (.int a9), o113, some (.int r8), some (.int x80), some (.int x82), some (.int x87), o114]) (S2 := [.int ((m117.1 51 9) &&& ((m117.1 q8 1) ^^^ (-1))), .ref 51]) (pc2 := 297) op77_296 rfl rfl ?_
                        obtain ⟨m119, em119, gc146⟩ := rq_bv gc146
                        refine rx_pf (m2 := m119) (pc2 := 300) op77_297 sp_51 rfl em119 rfl ?_
                        cases gc146
                        exact c146 _ _ _ _ _ _
                      refine ry_if_ne (tgt := 261) (pc2 := 256) op77_253 (by decide) (by decide) rfl (fun b109 => ?_) (fun b109 => ?_)
                      · have gc120 := (if_pos b109).symm.trans gc120
                        refine rx_p (L2 := [some (.ref 51), some (.int a1), some (.int a2), some (.int a3), some (.int a4), some (.int a5), some (.int a6), some (.int a7), some (.ref q8), some (.int a9), some (.int x5), some (.int r8), some (.int x80), some (.int x82), some (.int x87), some (.int x93)]) (S2 := [.int x5, .int (a1 - 1), .ref 51]) (pc2 := 258) op77_256 rfl rfl ?_
                        refine ry_go (tgt := 270) op77_258 (by decide) (by decide) ?_
                        cases gc120
                        exact c120 _ _
                      · have gc120 := (if_neg b109).symm.trans gc120
                        refine rx_p (L2 := [some (.ref 51), some (.int a1), some (.int a2), some (.int a3), some (.int a4), some (.int a5), some (.int a6), some (.int a7), some (.ref q8), some (.int a9), some (.int x5), some (.int r8), some (.int x80), some (.int x82), some (.int x87), some (.int x93)]) (S2 := [.ref 51, .int (a1 - 1), .ref 51]) (pc2 := 262) op77_261 rfl rfl ?_
                        refine rx_gf (v := .ref 52) (pc2 := 265) op77_262 sp_51 rfl rfl rfl ?_
                        refine rx_p (L2 := [some (.ref 51), some (.int a1), some (.int a2), some (.int a3), some (.int a4), some (.int a5), some (.int a6), some (.int a7), some (.ref q8), some (.int a9), some (.int x5), some (.int r8), some (.int x80), some (.int x82), some (.int x87), some (.int x93)]) (S2 := [.int x5, .ref 52, .int (a1 - 1), .ref 51]) (pc2 := 267) op77_265 rfl rfl ?_
                        obtain ⟨⟨r111, m110⟩, f112, gc120⟩ := rq_bind gc120
                        try dsimp only at gc120
                        refine ry_iv (p := 52) (vs := [.int x5]) (T := [.int (a1 - 1), .ref 51]) (pc2 := 270) op77_267 ms_87 (by decide) rfl rfl (Nat.le_of_ble_eq_true rfl) (Nat.le_of_ble_eq_true rfl) sp_52 (ga_previous_ok xs (by omega) sa_52 f112) rfl ?_
                        show rn_R _ _ _ _ _ [.int r111, .int (a1 - 1), .ref 51] _ _ _
                        cases gc120
                        exact c120 _ _
                · have gc146 := (if_neg b101).symm.trans gc146
                  refine rx_p (L2 := [some (.ref 51), some (.int a1), some (.int a2), some (.int a3), some (.int a4), some (.int a5), some (.int a6), some (.int a7), some (.ref q8), some (.int a9), some (.int x5), some (.int r8), some (.int x80), some (.int x82), some (.int x87), some (.int x93)]) (S2 := [.int a1]) (pc2 := 211) op77_210 rfl rfl ?_
                  refine ry_if_ne (tgt := 228) (pc2 := 214) op77_211 (by decide) (by decide) rfl (fun b121 => ?_) (fun b121 => ?_)
                  · have gc146 := (if_pos b121).symm.trans gc146
                    refine rx_p (L2 := [some (.ref 51), some (.int a1), some (.int a2), some (.int a3), some (.int a4), some (.int a5), some (.int a6), some (.int a7), some (.ref q8), some (.int a9), some (.int x5), some (.int r8), some (.int x80), some (.int x82), some (.int x87), some (.int x93)]) (S2 := [.ref 51]) (pc2 := 215) op77_214 rfl rfl ?_
                    refine rx_p (L2 := [some (.ref 51), some (.int a1), some (.int a2), some (.int a3), some (.int a4), some (.int a5), some (.int a6), some (.int a7), some (.ref q8), some (.int a9), some (.int x5), some (.int r8), some (.int x80), some (.int x82), some (.int x87), some (.int x93)]) (S2 := [.int x93, .ref 51]) (pc2 := 217) op77_215 rfl rfl ?_
                    refine rx_p (L2 := [some (.ref 51), some (.int a1), some (.int a2), some (.int a3), some (.int a4), some (.int a5), some (.int a6), some (.int a7), some (.ref q8), some (.int a9), some (.int x5), some (.int r8), some (.int x80), some (.int x82), some (.int x87), some (.int x93)]) (S2 := [.int a6, .int x93, .ref 51]) (pc2 := 219) op77_217 rfl rfl ?_
                    refine rx_p (L2 := [some (.ref 51), some (.int a1), some (.int a2), some (.int a3), some (.int a4), some (.int a5), some (.int a6), some (.int a7), some (.ref q8), some (.int a9), some (.int x5), some (.int r8), some (.int x80), some (.int x82), some (.int x87), some (.int x93)]) (S2 := [.int r8, .int a6, .int x93, .ref 51]) (pc2 := 221) op77_219 rfl rfl ?_
                    refine rx_p (L2 := [some (.ref 51), some (.int a1), some (.int a2), some (.int a3), some (.int a4), some (.int a5), some (.int a6), some (.int a7), some (.ref q8), some (.int a9), some (.int x5), some (.int r8), some (.int x80), some (.int x82), some (.int x87), some (.int x93)]) (S2 := [.int (a6 ||| r8), .int x93, .ref 51]) (pc2 := 222) op77_221 rfl rfl ?_
                    obtain ⟨m122, f123, gc146⟩ := rq_bind gc146
                    try dsimp only at gc146
                    refine ry_iv (p := 51) (vs := [.int x93, .int (a6 ||| r8)]) (T := []) (pc2 := 225) op77_222 ms_86 (by decide) rfl rfl (Nat.le_of_ble_eq_true rfl) (Nat.le_of_ble_eq_true rfl) sp_51 (se_noteLess_ok xs (by omega)  f123) rfl ?_
                    show rn_R _ _ _ _ _ [] _ _ _
                    refine ry_go (tgt := 300) op77_225 (by decide) (by decide) ?_
                    cases gc146
                    exact c146 _ _ _ _ _ _
                  · have gc146 := (if_neg b121).symm.trans gc146
                    refine rx_p (L2 := [some (.ref 51), some (.int a1), some (.int a2), some (.int a3), some (.int a4), some (.int a5), some (.int a6), some (.int a7), some (.ref q8), some (.int a9), some (.int x5), some (.int r8), some (.int x80), some (.int x82), some (.int x87), some (.int x93)]) (S2 := [.ref 51]) (pc2 := 229) op77_228 rfl rfl ?_
                    refine rx_p (L2 := [some (.ref 51), some (.int a1), some (.int a2), some (.int a3), some (.int a4), some (.int a5), some (.int a6), some (.int a7), some (.ref q8), some (.int a9), some (.int x5), some (.int r8), some (.int x80), some (.int x82), some (.int x87), some (.int x93)]) (S2 := [.ref 51, .ref 51]) (pc2 := 230) op77_229 rfl rfl ?_
                    refine rx_gf (v := .int (m99.1 51 9)) (pc2 := 233) op77_230 sp_51 rfl rfl rfl ?_
                    refine rx_p (L2 := [some (.ref 51), some (.int a1), some (.int a2), some (.int a3), some (.int a4), some (.int a5), some (.int a6), some (.int a7), some (.ref q8), some (.int a9), some (.int x5), some (.int r8), some (.int x80), some (.int x82), some (.int x87), some (.int x93)]) (S2 := [.ref q8, .int (m99.1 51 9), .ref 51]) (pc2 := 235) op77_233 rfl rfl ?_
                    refine rx_gf (v := .int (m99.1 q8 1)) (pc2 := 238) op77_235 (hq8.1) rfl rfl rfl ?_
                    refine rx_p (L2 := [some (.ref 51), some (.int a1), some (.int a2), some (.int a3), some (.int a4), some (.int a5), some (.int a6), some (.int a7), some (.ref q8), some (.int a9), some (.int x5), some (.int r8), some (.int x80), some (.int x82), some (.int x87), some (.int x93)]) (S2 := [.int ((m99.1 51 9) ||| (m99.1 q8 1)), .ref 51]) (pc2 := 239) op77_238 rfl rfl ?_
                    obtain ⟨m124, em124, gc146⟩ := rq_bv gc146
                    refine rx_pf (m2 := m124) (pc2 := 242) op77_239 sp_51 rfl em124 rfl ?_
                    refine rx_p (L2 := [some (.ref 51), some (.int a1), some (.int a2), some (.int a3), some (.int a4), some (.int a5), some (.int a6), some (.int a7), some (.ref q8), some (.int a9), some (.int x5), some (.int r8), some (.int x80), some (.int x82), some (.int x87), some (.int x93)]) (S2 := [.ref 51]) (pc2 := 243) op77_242 rfl rfl ?_
                    refine rx_p (L2 := [some (.ref 51), some (.int a1), some (.int a2), some (.int a3), some (.int a4), some (.int a5), some (.int a6), some (.int a7), some (.ref q8), some (.int a9), some (.int x5), some (.int r8), some (.int x80), some (.int x82), some (.int x87), some (.int x93)]) (S2 := [.int a1, .ref 51]) (pc2 := 244) op77_243 rfl rfl ?_
                    refine rx_ic (v := 1) (pc2 := 245) op77_244 (by decide) rfl ?_
                    refine rx_p (L2 := [some (.ref 51), some (.int a1), some (.int a2), some (.int a3), some (.int a4), some (.int a5), some (.int a6), some (.int a7), some (.ref q8), some (.int a9), some (.int x5), some (.int r8), some (.int x80), some (.int x82), some (.int x87), some (.int x93)]) (S2 := [.int (a1 - 1), .ref 51]) (pc2 := 246) op77_245 rfl rfl ?_
                    refine rx_p (L2 := [some (.ref 51), some (.int a1), some (.int a2), some (.int a3), some (.int a4), some (.int a5), some (.int a6), some (.int a7), some (.ref q8), some (.int a9), some (.int x5), some (.int r8), some (.int x80), some (.int x82), some (.int x87), some (.int x93)]) (S2 := [.ref 51, .int (a1 - 1), .ref 51]) (pc2 := 247) op77_246 rfl rfl ?_
                    refine rx_gf (v := .ref 52) (pc2 := 250) op77_247 sp_51 rfl rfl rfl ?_
                    refine rx_gf (v := .int (m124.1 52 6)) (pc2 := 253) op77_250 sp_52 rfl rfl rfl ?_
                    obtain ⟨⟨x131, m132⟩, gc136, gc146⟩ := rq_bind gc146
                    try dsimp only at gc146
                    have c136 : ∀ (o129 o130 : Option Value), rn_R xs (d + 1) 77 270 [some (.ref 51), some (.int a1), some (.int a2), some (.int a3), some (.int a4), some (.int a5), some (.int a6), some (.int a7), some (.ref q8), some (.int a9), o129, some (.int r8), some (.int x80), some (.int x82), some (.int x87), o130] [.int x131, .int (a1 - 1), .ref 51] (rn_SH, m132) r τ := by
                      intro o129 o130
                      refine rx_p (L2 := [some (.ref 51), some (.int a1), some (.int a2), some (.int a3), some (.int a4), some (.int a5), some (.int a6), some (.int a7), some (.ref q8), some (.int a9), o129, some (.int r8), some (.int x80), some (.int x82), some (.int x87), o130]) (S2 := [.int x82, .int x131, .int (a1 - 1), .ref 51]) (pc2 := 272) op77_270 rfl rfl ?_
                      refine rx_p (L2 := [some (.ref 51), some (.int a1), some (.int a2), some (.int a3), some (.int a4), some (.int a5), some (.int a6), some (.int a7), some (.ref q8), some (.int a9), o129, some (.int r8), some (.int x80), some (.int x82), some (.int x87), o130]) (S2 := [.int x80, .int x82, .int x131, .int (a1 - 1), .ref 51]) (pc2 := 274) op77_272 rfl rfl ?_
                      refine rx_p (L2 := [some (.ref 51), some (.int a1), some (.int a2), some (.int a3), some (.int a4), some (.int a5), some (.int a6), some (.int a7), some (.ref q8), some (.int a9), o129, some (.int r8), some (.int x80), some (.int x82), some (.int x87), o130]) (S2 := [.int a6, .int x80, .int x82, .int x131, .int (a1 - 1), .ref 51]) (pc2 := 276) op77_274 rfl rfl ?_
                      refine rx_p (L2 := [some (.ref 51), some (.int a1), some (.int a2), some (.int a3), some (.int a4), some (.int a5), some (.int a6), some (.int a7), some (.ref q8), some (.int a9), o129, some (.int r8), some (.int x80), some (.int x82), some (.int x87), o130]) (S2 := [.int r8, .int a6, .int x80, .int x82, .int x131, .int (a1 - 1), .ref 51]) (pc2 := 278) op77_276 rfl rfl ?_
                      refine rx_p (L2 := [some (.ref 51), some (.int a1), some (.int a2), some (.int a3), some (.int a4), some (.int a5), some (.int a6), some (.int a7), some (.ref q8), some (.int a9), o129, some (.int r8), some (.int x80), some (.int x82), some (.int x87), o130]) (S2 := [.int (a6 ||| r8), .int x80, .int x82, .int x131, .int (a1 - 1), .ref 51]) (pc2 := 279) op77_278 rfl rfl ?_
                      refine rx_p (L2 := [some (.ref 51), some (.int a1), some (.int a2), some (.int a3), some (.int a4), some (.int a5), some (.int a6), some (.int a7), some (.ref q8), some (.int a9), o129, some (.int r8), some (.int x80), some (.int x82), some (.int x87), o130]) (S2 := [.int x87, .int (a6 ||| r8), .int x80, .int x82, .int x131, .int (a1 - 1), .ref 51]) (pc2 := 281) op77_279 rfl rfl ?_
                      obtain ⟨m133, f134, gc146⟩ := rq_bind gc146
                      try dsimp only at gc146
                      refine ry_iv (p := 51) (vs := [.int (a1 - 1), .int x131, .int x82, .int x80, .int (a6 ||| r8), .int x87]) (T := []) (pc2 := 284) op77_281 ms_76 (by decide) rfl rfl (Nat.le_of_ble_eq_true rfl) (Nat.le_of_ble_eq_true rfl) sp_51 (hrec  f134) rfl ?_
                      show rn_R _ _ _ _ _ [] _ _ _
                      refine rx_p (L2 := [some (.ref 51), some (.int a1), some (.int a2), some (.int a3), some (.int a4), some (.int a5), some (.int a6), some (.int a7), some (.ref q8), some (.int a9), o129, some (.int r8), some (.int x80), some (.int x82), some (.int x87), o130]) (S2 := [.ref 51]) (pc2 := 285) op77_284 rfl rfl ?_
                      refine rx_p (L2 := [some (.ref 51), some (.int a1), some (.int a2), some (.int a3), some (.int a4), some (.int a5), some (.int a6), some (.int a7), some (.ref q8), some (.int a9), o129, some (.int r8), some (.int x80), some (.int x82), some (.int x87), o130]) (S2 := [.ref 51, .ref 51]) (pc2 := 286) op77_285 rfl rfl ?_
                      refine rx_gf (v := .int (m133.1 51 9)) (pc2 := 289) op77_286 sp_51 rfl rfl rfl ?_
                      refine rx_p (L2 := [some (.ref 51), some (.int a1), some (.int a2), some (.int a3), some (.int a4), some (.int a5), some (.int a6), some (.int a7), some (.ref q8), some (.int a9), o129, some (.int r8), some (.int x80), some (.int x82), some (.int x87), o130]) (S2 := [.ref q8, .int (m133.1 51 9), .ref 51]) (pc2 := 291) op77_289 rfl rfl ?_
                      refine rx_gf (v := .int (m133.1 q8 1)) (pc2 := 294) op77_291 (hq8.1) rfl rfl rfl ?_
                      refine rx_ic (v := (-1)) (pc2 := 295) op77_294 (by decide) rfl ?_
                      refine rx_p (L2 := [some (.ref 51), some (.int a1), some (.int a2), some (.int a3), some (.int a4), some (.int a5), some (.int a6), some (.int a7), some (.ref q8), some (.int a9), o129, some (.int r8), some (.int x80), some (.int x82), some (.int x87), o130]) (S2 := [.int ((m133.1 q8 1) ^^^ (-1)), .int (m133.1 51 9), .ref 51]) (pc2 := 296) op77_295 rfl rfl ?_
                      refine rx_p (L2 := [some (.ref 51), some (.int a1), some (.int a2), some (.int a3), some (.int a4), some (.int a5), some (.int a6), some (.int a7), some (.ref q8), some (.int a9), o129, some (.int r8), some (.int x80), some (.int x82), some (.int x87), o130]) (S2 := [.int ((m133.1 51 9) &&& ((m133.1 q8 1) ^^^ (-1))), .ref 51]) (pc2 := 297) op77_296 rfl rfl ?_
                      obtain ⟨m135, em135, gc146⟩ := rq_bv gc146
                      refine rx_pf (m2 := m135) (pc2 := 300) op77_297 sp_51 rfl em135 rfl ?_
                      cases gc146
                      exact c146 _ _ _ _ _ _
                    refine ry_if_ne (tgt := 261) (pc2 := 256) op77_253 (by decide) (by decide) rfl (fun b125 => ?_) (fun b125 => ?_)
                    · have gc136 := (if_pos b125).symm.trans gc136
                      refine rx_p (L2 := [some (.ref 51), some (.int a1), some (.int a2), some (.int a3), some (.int a4), some (.int a5), some (.int a6), some (.int a7), some (.ref q8), some (.int a9), some (.int x5), some (.int r8), some (.int x80), some (.int x82), some (.int x87), some (.int x93)]) (S2 := [.int x5, .int (a1 - 1), .ref 51]) (pc2 := 258) op77_256 rfl rfl ?_
                      refine ry_go (tgt := 270) op77_258 (by decide) (by decide) ?_
                      cases gc136
                      exact c136 _ _
                    · have gc136 := (if_neg b125).symm.trans gc136
                      refine rx_p (L2 := [some (.ref 51), some (.int a1), some (.int a2), some (.int a3), some (.int a4), some (.int a5), some (.int a6), some (.int a7), some (.ref q8), some (.int a9), some (.int x5), some (.int r8), some (.int x80), some (.int x82), some (.int x87), some (.int x93)]) (S2 := [.ref 51, .int (a1 - 1), .ref 51]) (pc2 := 262) op77_261 rfl rfl ?_
                      refine rx_gf (v := .ref 52) (pc2 := 265) op77_262 sp_51 rfl rfl rfl ?_
                      refine rx_p (L2 := [some (.ref 51), some (.int a1), some (.int a2), some (.int a3), some (.int a4), some (.int a5), some (.int a6), some (.int a7), some (.ref q8), some (.int a9), some (.int x5), some (.int r8), some (.int x80), some (.int x82), some (.int x87), some (.int x93)]) (S2 := [.int x5, .ref 52, .int (a1 - 1), .ref 51]) (pc2 := 267) op77_265 rfl rfl ?_
                      obtain ⟨⟨r127, m126⟩, f128, gc136⟩ := rq_bind gc136
                      try dsimp only at gc136
                      refine ry_iv (p := 52) (vs := [.int x5]) (T := [.int (a1 - 1), .ref 51]) (pc2 := 270) op77_267 ms_87 (by decide) rfl rfl (Nat.le_of_ble_eq_true rfl) (Nat.le_of_ble_eq_true rfl) sp_52 (ga_previous_ok xs (by omega) sa_52 f128) rfl ?_
                      show rn_R _ _ _ _ _ [.int r127, .int (a1 - 1), .ref 51] _ _ _
                      cases gc136
                      exact c136 _ _
            refine ry_ic_ne (tgt := 154) (pc2 := 146) op77_143 (by decide) (by decide) rfl (fun b88 => ?_) (fun b88 => ?_)
            · have gc137 := (if_pos b88).symm.trans gc137
              refine rx_p (L2 := [some (.ref 51), some (.int a1), some (.int a2), some (.int a3), some (.int a4), some (.int a5), some (.int a6), some (.int a7), some (.ref q8), some (.int a9), some (.int x5), some (.int r8), some (.int x80), some (.int x82), some (.int x87), o15]) (S2 := [.int x87]) (pc2 := 148) op77_146 rfl rfl ?_
              obtain ⟨⟨r90, m89⟩, f91, gc137⟩ := rq_bind gc137
              try dsimp only at gc137
              refine ry_is (vs := [.int x87]) (T := []) (pc2 := 151) op77_148 (by decide) ms_82 (by decide) rfl rfl (Nat.le_of_ble_eq_true rfl) (Nat.le_of_ble_eq_true rfl) (se_rankOf_ok xs (by omega)  f91) rfl ?_
              show rn_R _ _ _ _ _ [.int r90] _ _ _
              refine ry_go (tgt := 156) op77_151 (by decide) (by decide) ?_
              cases gc137
              exact c137 _
            · have gc137 := (if_neg b88).symm.trans gc137
              refine rx_p (L2 := [some (.ref 51), some (.int a1), some (.int a2), some (.int a3), some (.int a4), some (.int a5), some (.int a6), some (.int a7), some (.ref q8), some (.int a9), some (.int x5), some (.int r8), some (.int x80), some (.int x82), some (.int x87), o15]) (S2 := [.int x80]) (pc2 := 156) op77_154 rfl rfl ?_
              cases gc137
              exact c137 _
          · have gc146 := (if_neg b76).symm.trans gc146
            refine ry_go (tgt := 300) op77_77 (by decide) (by decide) ?_
            cases gc146
            exact c146 _ _ _ _ _ _
    · have h := (if_neg b3).symm.trans h
      cases h
      exact hr _ rfl _ _ _ _ _ _ _ _ _ _ _ _ _ _ _ _
set_option maxHeartbeats 4000000 in
set_option maxRecDepth 20000 in
theorem se_layTrick_ok (xs : List Int32) {d : Nat} (hd : 3 ≤ d) {rec : Int32 → Int32 → Int32 → Int32 → Int32 → Int32 → rn_Mem → Option (rn_Mem)} (hrec : ∀ {a1 : Int32} {a2 : Int32} {a3 : Int32} {a4 : Int32} {a5 : Int32} {a6 : Int32} {mI mO : rn_Mem} , rec a1 a2 a3 a4 a5 a6 mI = some mO → rn_R xs d 76 0 (rn_ent 8 [.ref 51, .int a1, .int a2, .int a3, .int a4, .int a5, .int a6]) [] (rn_SH, mI) none (rn_SH, mO)) {n : Nat} {a1 : Int32} {a2 : Int32} {a3 : Int32} {a4 : Int32} {a5 : Int32} {a6 : Int32} {a7 : Int32} {m mO : rn_Mem} (h : se_layTrick rec n a1 a2 a3 a4 a5 a6 a7 m = some mO) : rn_R xs (d + 1) 77 0 (rn_ent 16 [.ref 51, .int a1, .int a2, .int a3, .int a4, .int a5, .int a6, .int a7]) [] (rn_SH, m) none (rn_SH, mO) := by
  unfold se_layTrick at h
  show rn_R xs (d + 1) 77 0 [some (.ref 51), some (.int a1), some (.int a2), some (.int a3), some (.int a4), some (.int a5), some (.int a6), some (.int a7), none, none, none, none, none, none, none, none] [] (rn_SH, m) none (rn_SH, mO)
  refine rx_p (L2 := [some (.ref 51), some (.int a1), some (.int a2), some (.int a3), some (.int a4), some (.int a5), some (.int a6), some (.int a7), none, none, none, none, none, none, none, none]) (S2 := [.int a2]) (pc2 := 1) op77_0 rfl rfl ?_
  refine rx_ic (v := 4) (pc2 := 2) op77_1 (by decide) rfl ?_
  refine ry_ic_lt (tgt := 6) (pc2 := 5) op77_2 (by decide) (by decide) rfl (fun b1 => ?_) (fun b1 => ?_)
  · have h := (if_pos b1).symm.trans h
    refine rx_p (L2 := [some (.ref 51), some (.int a1), some (.int a2), some (.int a3), some (.int a4), some (.int a5), some (.int a6), some (.int a7), none, none, none, none, none, none, none, none]) (S2 := [.ref 51]) (pc2 := 7) op77_6 rfl rfl ?_
    refine rx_gf (v := .ref 62) (pc2 := 10) op77_7 sp_51 rfl rfl rfl ?_
    refine rx_p (L2 := [some (.ref 51), some (.int a1), some (.int a2), some (.int a3), some (.int a4), some (.int a5), some (.int a6), some (.int a7), none, none, none, none, none, none, none, none]) (S2 := [.int a2, .ref 62]) (pc2 := 11) op77_10 rfl rfl ?_
    obtain ⟨k2, h⟩ := rq_chk h
    refine rx_aa (q := (70 + 8 * a2.toNatClampNeg)) (pc2 := 12) op77_11 sp_62 (by decide) k2 (rn_ways_at k2) rfl ?_
    refine rx_p (L2 := [some (.ref 51), some (.int a1), some (.int a2), some (.int a3), some (.int a4), some (.int a5), some (.int a6), some (.int a7), some (.ref (70 + 8 * a2.toNatClampNeg)), none, none, none, none, none, none, none]) (S2 := []) (pc2 := 14) op77_12 rfl rfl ?_
    refine rx_ic (v := 0) (pc2 := 15) op77_14 (by decide) rfl ?_
    refine rx_s (L2 := [some (.ref 51), some (.int a1), some (.int a2), some (.int a3), some (.int a4), some (.int a5), some (.int a6), some (.int a7), some (.ref (70 + 8 * a2.toNatClampNeg)), some (.int 0), none, none, none, none, none, none]) (pc2 := 17) op77_15 rfl rfl rfl ?_
    obtain ⟨m147, f164, h⟩ := rq_bind h
    refine se_layTrick_l17_ok xs hd hrec (fun m0 eq => ?_) _ _ _ _ _ _ _ _ _ (rn_ways_asm k2) f164
    subst eq
    try dsimp only at h
    intro o148 o149 o150 o151 o152 o153 o154 o155 o156 o157 o158 o159 o160 o161 o162 o163
    obtain rfl := Option.some.inj h
    exact ry_rv op77_306 ms_77 rfl
  · have h := (if_neg b1).symm.trans h
    obtain rfl := Option.some.inj h
    exact ry_rv op77_5 ms_77 rfl
