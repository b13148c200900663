/-! wa_note -/
theorem op72_0 : rn_op 72 0 = some (.iload_n 3, 1, 0, 0, 0) := by decide +kernel
theorem op72_1 : rn_op 72 1 = some (.iconst 4, 1, 0, 0, 0) := by decide +kernel
theorem op72_2 : rn_op 72 2 = some (.aload_n 1, 1, 0, 0, 0) := by decide +kernel
theorem op72_3 : rn_op 72 3 = some (.getfield 44, 3, 1, 1, 0) := by decide +kernel
theorem op72_6 : rn_op 72 6 = some (.iconst 1, 1, 0, 0, 0) := by decide +kernel
theorem op72_7 : rn_op 72 7 = some (.isub, 1, 0, 0, 0) := by decide +kernel
theorem op72_8 : rn_op 72 8 = some (.imul, 1, 0, 0, 0) := by decide +kernel
theorem op72_9 : rn_op 72 9 = some (.ishr, 1, 0, 0, 0) := by decide +kernel
theorem op72_10 : rn_op 72 10 = some (.bipush 15, 2, 0, 0, 0) := by decide +kernel
theorem op72_12 : rn_op 72 12 = some (.iand, 1, 0, 0, 0) := by decide +kernel
theorem op72_13 : rn_op 72 13 = some (.istore 5, 2, 0, 0, 0) := by decide +kernel
theorem op72_15 : rn_op 72 15 = some (.iconst (-1), 1, 0, 0, 0) := by decide +kernel
theorem op72_16 : rn_op 72 16 = some (.istore 6, 2, 0, 0, 0) := by decide +kernel
theorem op72_18 : rn_op 72 18 = some (.iconst 0, 1, 0, 0, 0) := by decide +kernel
theorem op72_19 : rn_op 72 19 = some (.istore 7, 2, 0, 0, 0) := by decide +kernel
theorem op72_21 : rn_op 72 21 = some (.iload 7, 2, 0, 0, 0) := by decide +kernel
theorem op72_23 : rn_op 72 23 = some (.aload_n 1, 1, 0, 0, 0) := by decide +kernel
theorem op72_24 : rn_op 72 24 = some (.getfield 44, 3, 1, 1, 0) := by decide +kernel
theorem op72_27 : rn_op 72 27 = some (.if_icmp .ge 35, 3, 0, 0, 0) := by decide +kernel
theorem op72_30 : rn_op 72 30 = some (.aload_n 1, 1, 0, 0, 0) := by decide +kernel
theorem op72_31 : rn_op 72 31 = some (.iload 6, 2, 0, 0, 0) := by decide +kernel
theorem op72_33 : rn_op 72 33 = some (.iload 7, 2, 0, 0, 0) := by decide +kernel
theorem op72_35 : rn_op 72 35 = some (.iload_n 3, 1, 0, 0, 0) := by decide +kernel
theorem op72_36 : rn_op 72 36 = some (.iconst 4, 1, 0, 0, 0) := by decide +kernel
theorem op72_37 : rn_op 72 37 = some (.aload_n 1, 1, 0, 0, 0) := by decide +kernel
theorem op72_38 : rn_op 72 38 = some (.getfield 44, 3, 1, 1, 0) := by decide +kernel
theorem op72_41 : rn_op 72 41 = some (.iconst 1, 1, 0, 0, 0) := by decide +kernel
theorem op72_42 : rn_op 72 42 = some (.isub, 1, 0, 0, 0) := by decide +kernel
theorem op72_43 : rn_op 72 43 = some (.iload 7, 2, 0, 0, 0) := by decide +kernel
theorem op72_45 : rn_op 72 45 = some (.isub, 1, 0, 0, 0) := by decide +kernel
theorem op72_46 : rn_op 72 46 = some (.imul, 1, 0, 0, 0) := by decide +kernel
theorem op72_47 : rn_op 72 47 = some (.ishr, 1, 0, 0, 0) := by decide +kernel
theorem op72_48 : rn_op 72 48 = some (.bipush 15, 2, 0, 0, 0) := by decide +kernel
theorem op72_50 : rn_op 72 50 = some (.iand, 1, 0, 0, 0) := by decide +kernel
theorem op72_51 : rn_op 72 51 = some (.invokevirtual 49, 3, 51, 4, 1) := by decide +kernel
theorem op72_54 : rn_op 72 54 = some (.istore 6, 2, 0, 0, 0) := by decide +kernel
theorem op72_56 : rn_op 72 56 = some (.iinc 7 1, 3, 0, 0, 0) := by decide +kernel
theorem op72_59 : rn_op 72 59 = some (.goto (-38), 3, 0, 0, 0) := by decide +kernel
theorem op72_62 : rn_op 72 62 = some (.aload_n 0, 1, 0, 0, 0) := by decide +kernel
theorem op72_63 : rn_op 72 63 = some (.getfield 34, 3, 9, 0, 0) := by decide +kernel
theorem op72_66 : rn_op 72 66 = some (.iload 6, 2, 0, 0, 0) := by decide +kernel
theorem op72_68 : rn_op 72 68 = some (.invokestatic 53, 3, 54, 1, 0) := by decide +kernel
theorem op72_71 : rn_op 72 71 = some (.isub, 1, 0, 0, 0) := by decide +kernel
theorem op72_72 : rn_op 72 72 = some (.istore 7, 2, 0, 0, 0) := by decide +kernel
theorem op72_74 : rn_op 72 74 = some (.iload 7, 2, 0, 0, 0) := by decide +kernel
theorem op72_76 : rn_op 72 76 = some (.ifCond .ge 13, 3, 0, 0, 0) := by decide +kernel
theorem op72_79 : rn_op 72 79 = some (.iload 7, 2, 0, 0, 0) := by decide +kernel
theorem op72_81 : rn_op 72 81 = some (.aload_n 1, 1, 0, 0, 0) := by decide +kernel
theorem op72_82 : rn_op 72 82 = some (.getfield 44, 3, 1, 1, 0) := by decide +kernel
theorem op72_85 : rn_op 72 85 = some (.iadd, 1, 0, 0, 0) := by decide +kernel
theorem op72_86 : rn_op 72 86 = some (.goto 5, 3, 0, 0, 0) := by decide +kernel
theorem op72_89 : rn_op 72 89 = some (.iload 7, 2, 0, 0, 0) := by decide +kernel
theorem op72_91 : rn_op 72 91 = some (.istore 7, 2, 0, 0, 0) := by decide +kernel
theorem op72_93 : rn_op 72 93 = some (.iload 7, 2, 0, 0, 0) := by decide +kernel
theorem op72_95 : rn_op 72 95 = some (.istore 8, 2, 0, 0, 0) := by decide +kernel
theorem op72_97 : rn_op 72 97 = some (.iconst 0, 1, 0, 0, 0) := by decide +kernel
theorem op72_98 : rn_op 72 98 = some (.istore 9, 2, 0, 0, 0) := by decide +kernel
theorem op72_100 : rn_op 72 100 = some (.iconst 0, 1, 0, 0, 0) := by decide +kernel
theorem op72_101 : rn_op 72 101 = some (.istore 10, 2, 0, 0, 0) := by decide +kernel
theorem op72_103 : rn_op 72 103 = some (.iconst 0, 1, 0, 0, 0) := by decide +kernel
theorem op72_104 : rn_op 72 104 = some (.istore 11, 2, 0, 0, 0) := by decide +kernel
theorem op72_106 : rn_op 72 106 = some (.lconst 0, 1, 0, 0, 0) := by decide +kernel
theorem op72_107 : rn_op 72 107 = some (.lstore 12, 2, 0, 0, 0) := by decide +kernel
theorem op72_109 : rn_op 72 109 = some (.aload_n 1, 1, 0, 0, 0) := by decide +kernel
theorem op72_110 : rn_op 72 110 = some (.getfield 44, 3, 1, 1, 0) := by decide +kernel
theorem op72_113 : rn_op 72 113 = some (.iconst 1, 1, 0, 0, 0) := by decide +kernel
theorem op72_114 : rn_op 72 114 = some (.isub, 1, 0, 0, 0) := by decide +kernel
theorem op72_115 : rn_op 72 115 = some (.istore 14, 2, 0, 0, 0) := by decide +kernel
theorem op72_117 : rn_op 72 117 = some (.iload 14, 2, 0, 0, 0) := by decide +kernel
theorem op72_119 : rn_op 72 119 = some (.ifCond .lt 89, 3, 0, 0, 0) := by decide +kernel
theorem op72_122 : rn_op 72 122 = some (.iload_n 3, 1, 0, 0, 0) := by decide +kernel
theorem op72_123 : rn_op 72 123 = some (.iconst 4, 1, 0, 0, 0) := by decide +kernel
theorem op72_124 : rn_op 72 124 = some (.iload 14, 2, 0, 0, 0) := by decide +kernel
theorem op72_126 : rn_op 72 126 = some (.imul, 1, 0, 0, 0) := by decide +kernel
theorem op72_127 : rn_op 72 127 = some (.ishr, 1, 0, 0, 0) := by decide +kernel
theorem op72_128 : rn_op 72 128 = some (.bipush 15, 2, 0, 0, 0) := by decide +kernel
theorem op72_130 : rn_op 72 130 = some (.iand, 1, 0, 0, 0) := by decide +kernel
theorem op72_131 : rn_op 72 131 = some (.istore 15, 2, 0, 0, 0) := by decide +kernel
theorem op72_133 : rn_op 72 133 = some (.iload 9, 2, 0, 0, 0) := by decide +kernel
theorem op72_135 : rn_op 72 135 = some (.aload_n 1, 1, 0, 0, 0) := by decide +kernel
theorem op72_136 : rn_op 72 136 = some (.iload 15, 2, 0, 0, 0) := by decide +kernel
theorem op72_138 : rn_op 72 138 = some (.iload 5, 2, 0, 0, 0) := by decide +kernel
theorem op72_140 : rn_op 72 140 = some (.invokestatic 57, 3, 73, 3, 0) := by decide +kernel
theorem op72_143 : rn_op 72 143 = some (.iconst 4, 1, 0, 0, 0) := by decide +kernel
theorem op72_144 : rn_op 72 144 = some (.iload 8, 2, 0, 0, 0) := by decide +kernel
theorem op72_146 : rn_op 72 146 = some (.imul, 1, 0, 0, 0) := by decide +kernel
theorem op72_147 : rn_op 72 147 = some (.ishl, 1, 0, 0, 0) := by decide +kernel
theorem op72_148 : rn_op 72 148 = some (.ior, 1, 0, 0, 0) := by decide +kernel
theorem op72_149 : rn_op 72 149 = some (.istore 9, 2, 0, 0, 0) := by decide +kernel
theorem op72_151 : rn_op 72 151 = some (.iload 10, 2, 0, 0, 0) := by decide +kernel
theorem op72_153 : rn_op 72 153 = some (.iconst 1, 1, 0, 0, 0) := by decide +kernel
theorem op72_154 : rn_op 72 154 = some (.iconst 4, 1, 0, 0, 0) := by decide +kernel
theorem op72_155 : rn_op 72 155 = some (.iload 8, 2, 0, 0, 0) := by decide +kernel
theorem op72_157 : rn_op 72 157 = some (.imul, 1, 0, 0, 0) := by decide +kernel
theorem op72_158 : rn_op 72 158 = some (.iload 15, 2, 0, 0, 0) := by decide +kernel
theorem op72_160 : rn_op 72 160 = some (.iconst 2, 1, 0, 0, 0) := by decide +kernel
theorem op72_161 : rn_op 72 161 = some (.ishr, 1, 0, 0, 0) := by decide +kernel
theorem op72_162 : rn_op 72 162 = some (.iadd, 1, 0, 0, 0) := by decide +kernel
theorem op72_163 : rn_op 72 163 = some (.ishl, 1, 0, 0, 0) := by decide +kernel
theorem op72_164 : rn_op 72 164 = some (.ior, 1, 0, 0, 0) := by decide +kernel
theorem op72_165 : rn_op 72 165 = some (.istore 10, 2, 0, 0, 0) := by decide +kernel
theorem op72_167 : rn_op 72 167 = some (.iload 11, 2, 0, 0, 0) := by decide +kernel
theorem op72_169 : rn_op 72 169 = some (.aload_n 2, 1, 0, 0, 0) := by decide +kernel
theorem op72_170 : rn_op 72 170 = some (.iload 8, 2, 0, 0, 0) := by decide +kernel
theorem op72_172 : rn_op 72 172 = some (.iload 15, 2, 0, 0, 0) := by decide +kernel
theorem op72_174 : rn_op 72 174 = some (.invokevirtual 61, 3, 74, 3, 0) := by decide +kernel
theorem op72_177 : rn_op 72 177 = some (.ior, 1, 0, 0, 0) := by decide +kernel
theorem op72_178 : rn_op 72 178 = some (.istore 11, 2, 0, 0, 0) := by decide +kernel
theorem op72_180 : rn_op 72 180 = some (.lload 12, 2, 0, 0, 0) := by decide +kernel
theorem op72_182 : rn_op 72 182 = some (.lconst 1, 1, 0, 0, 0) := by decide +kernel
theorem op72_183 : rn_op 72 183 = some (.iconst 4, 1, 0, 0, 0) := by decide +kernel
theorem op72_184 : rn_op 72 184 = some (.iload 15, 2, 0, 0, 0) := by decide +kernel
theorem op72_186 : rn_op 72 186 = some (.imul, 1, 0, 0, 0) := by decide +kernel
theorem op72_187 : rn_op 72 187 = some (.iload 8, 2, 0, 0, 0) := by decide +kernel
theorem op72_189 : rn_op 72 189 = some (.iadd, 1, 0, 0, 0) := by decide +kernel
theorem op72_190 : rn_op 72 190 = some (.lshl, 1, 0, 0, 0) := by decide +kernel
theorem op72_191 : rn_op 72 191 = some (.lor, 1, 0, 0, 0) := by decide +kernel
theorem op72_192 : rn_op 72 192 = some (.lstore 12, 2, 0, 0, 0) := by decide +kernel
theorem op72_194 : rn_op 72 194 = some (.aload_n 1, 1, 0, 0, 0) := by decide +kernel
theorem op72_195 : rn_op 72 195 = some (.iload 8, 2, 0, 0, 0) := by decide +kernel
theorem op72_197 : rn_op 72 197 = some (.invokevirtual 67, 3, 53, 2, 1) := by decide +kernel
theorem op72_200 : rn_op 72 200 = some (.istore 8, 2, 0, 0, 0) := by decide +kernel
theorem op72_202 : rn_op 72 202 = some (.iinc 14 (-1), 3, 0, 0, 0) := by decide +kernel
theorem op72_205 : rn_op 72 205 = some (.goto (-88), 3, 0, 0, 0) := by decide +kernel
theorem op72_208 : rn_op 72 208 = some (.aload_n 0, 1, 0, 0, 0) := by decide +kernel
theorem op72_209 : rn_op 72 209 = some (.iload 7, 2, 0, 0, 0) := by decide +kernel
theorem op72_211 : rn_op 72 211 = some (.iload 9, 2, 0, 0, 0) := by decide +kernel
theorem op72_213 : rn_op 72 213 = some (.iload 10, 2, 0, 0, 0) := by decide +kernel
theorem op72_215 : rn_op 72 215 = some (.iload 4, 2, 0, 0, 0) := by decide +kernel
theorem op72_217 : rn_op 72 217 = some (.iand, 1, 0, 0, 0) := by decide +kernel
theorem op72_218 : rn_op 72 218 = some (.iload 11, 2, 0, 0, 0) := by decide +kernel
theorem op72_220 : rn_op 72 220 = some (.invokevirtual 70, 3, 75, 5, 9) := by decide +kernel
theorem op72_223 : rn_op 72 223 = some (.istore 14, 2, 0, 0, 0) := by decide +kernel
theorem op72_225 : rn_op 72 225 = some (.iload 14, 2, 0, 0, 0) := by decide +kernel
theorem op72_227 : rn_op 72 227 = some (.ifCond .ge 4, 3, 0, 0, 0) := by decide +kernel
theorem op72_230 : rn_op 72 230 = some (.return_, 1, 0, 0, 0) := by decide +kernel
theorem op72_231 : rn_op 72 231 = some (.aload_n 0, 1, 0, 0, 0) := by decide +kernel
theorem op72_232 : rn_op 72 232 = some (.getfield 24, 3, 9, 7, 3) := by decide +kernel
theorem op72_235 : rn_op 72 235 = some (.iload 14, 2, 0, 0, 0) := by decide +kernel
theorem op72_237 : rn_op 72 237 = some (.dup2, 1, 0, 0, 0) := by decide +kernel
theorem op72_238 : rn_op 72 238 = some (.iaload, 1, 0, 0, 0) := by decide +kernel
theorem op72_239 : rn_op 72 239 = some (.iconst 1, 1, 0, 0, 0) := by decide +kernel
theorem op72_240 : rn_op 72 240 = some (.iadd, 1, 0, 0, 0) := by decide +kernel
theorem op72_241 : rn_op 72 241 = some (.iastore, 1, 0, 0, 0) := by decide +kernel
theorem op72_242 : rn_op 72 242 = some (.aload_n 0, 1, 0, 0, 0) := by decide +kernel
theorem op72_243 : rn_op 72 243 = some (.getfield 27, 3, 9, 8, 3) := by decide +kernel
theorem op72_246 : rn_op 72 246 = some (.iload 14, 2, 0, 0, 0) := by decide +kernel
theorem op72_248 : rn_op 72 248 = some (.dup2, 1, 0, 0, 0) := by decide +kernel
theorem op72_249 : rn_op 72 249 = some (.laload, 1, 0, 0, 0) := by decide +kernel
theorem op72_250 : rn_op 72 250 = some (.lload 12, 2, 0, 0, 0) := by decide +kernel
theorem op72_252 : rn_op 72 252 = some (.lor, 1, 0, 0, 0) := by decide +kernel
theorem op72_253 : rn_op 72 253 = some (.lastore, 1, 0, 0, 0) := by decide +kernel
theorem op72_254 : rn_op 72 254 = some (.aload_n 0, 1, 0, 0, 0) := by decide +kernel
theorem op72_255 : rn_op 72 255 = some (.getfield 31, 3, 9, 9, 3) := by decide +kernel
theorem op72_258 : rn_op 72 258 = some (.iload 14, 2, 0, 0, 0) := by decide +kernel
theorem op72_260 : rn_op 72 260 = some (.aload_n 0, 1, 0, 0, 0) := by decide +kernel
theorem op72_261 : rn_op 72 261 = some (.getfield 31, 3, 9, 9, 3) := by decide +kernel
theorem op72_264 : rn_op 72 264 = some (.iload 14, 2, 0, 0, 0) := by decide +kernel
theorem op72_266 : rn_op 72 266 = some (.iaload, 1, 0, 0, 0) := by decide +kernel
theorem op72_267 : rn_op 72 267 = some (.iload_n 3, 1, 0, 0, 0) := by decide +kernel
theorem op72_268 : rn_op 72 268 = some (.invokestatic 74, 3, 21, 2, 0) := by decide +kernel
theorem op72_271 : rn_op 72 271 = some (.iastore, 1, 0, 0, 0) := by decide +kernel
theorem op72_272 : rn_op 72 272 = some (.return_, 1, 0, 0, 0) := by decide +kernel
def wa_note_l21 (q0 : Nat) (q1 : Nat) (q2 : Nat) (a3 : Int32) (a4 : Int32) (a5 : Int32) : Nat → Int32 → Int32 → rn_Mem → Option (Int32 × rn_Mem)
  | 0, _, _, _ => none
  | n + 1, a6, a7, m =>
    if a7 < (m.1 q1 1) then
      (ga_join n q1 a6 a7 ((a3 >>> (((4 : Int32) * (((m.1 q1 1) - 1) - a7)) &&& 31)) &&& 15) m).bind fun (r4, m3) =>
      (some (a7 + 1)).bind fun (x6 : Int32) =>
      wa_note_l21 q0 q1 q2 a3 a4 a5 n r4 x6 m3
    else
      some (a6, m)
def wa_note_l117 (q0 : Nat) (q1 : Nat) (q2 : Nat) (a3 : Int32) (a4 : Int32) (a5 : Int32) (a7 : Int32) : Nat → Int32 → Int32 → Int32 → Int32 → Int64 → Int32 → rn_Mem → Option (Int32 × Int32 × Int32 × Int64 × rn_Mem)
  | 0, _, _, _, _, _, _, _ => none
  | n + 1, a8, a9, a10, a11, a12, a14, m =>
    if a14 < 0 then
      some (a9, a10, a11, a12, m)
    else
      (some ((a3 >>> (((4 : Int32) * a14) &&& 31)) &&& 15)).bind fun (x37 : Int32) =>
      (wa_barredBy n q1 x37 a5 m).bind fun (r39, m38) =>
      (some (a9 ||| (r39 <<< (((4 : Int32) * a8) &&& 31)))).bind fun (x41 : Int32) =>
      (some (a10 ||| ((1 : Int32) <<< ((((4 : Int32) * a8) + (x37 >>> (2 &&& 31))) &&& 31)))).bind fun (x42 : Int32) =>
      (cl_againstHolding n q2 a8 x37 m38).bind fun (r44, m43) =>
      (some (a11 ||| r44)).bind fun (x46 : Int32) =>
      (some (a12 ||| ((1 : Int64) <<< ((((4 : Int32) * x37) + a8).toInt64 &&& 63)))).bind fun (x47 : Int64) =>
      (ga_next n q1 a8 m43).bind fun (r49, m48) =>
      (some (a14 + (-1))).bind fun (x51 : Int32) =>
      wa_note_l117 q0 q1 q2 a3 a4 a5 a7 n r49 x41 x42 x46 x47 x51 m48
def wa_note (n : Nat) (q0 : Nat) (q1 : Nat) (q2 : Nat) (a3 : Int32) (a4 : Int32) (m : rn_Mem) : Option (rn_Mem) :=
  (some ((a3 >>> (((4 : Int32) * ((m.1 q1 1) - 1)) &&& 31)) &&& 15)).bind fun (x1 : Int32) =>
  (wa_note_l21 q0 q1 q2 a3 a4 x1 n (-1) 0 m).bind fun (x8, m7) =>
  (ga_winnerOf n x8 m7).bind fun (r19, m18) =>
  (some ((m7.1 q0 0) - r19)).bind fun (x21 : Int32) =>
  (show Option (Int32) from
    if x21 < 0 then
      some (x21 + (m18.1 q1 1))
    else
      some (x21)).bind fun x33 =>
  (some ((m18.1 q1 1) - 1)).bind fun (x35 : Int32) =>
  (wa_note_l117 q0 q1 q2 a3 a4 x1 x33 n x33 0 0 0 0 x35 m18).bind fun (x58, x59, x60, x61, m52) =>
  (wa_find n q0 x33 x58 (x59 &&& a4) x60 m52).bind fun (r66, m65) =>
  if r66 < 0 then
    some m65
  else
    if rn_in r66 24 = true then
      if rn_in r66 24 = true then
        (some (rm_i m65 (q0 + 5) r66.toNatClampNeg ((m65.1 (q0 + 5) r66.toNatClampNeg) + 1))).bind fun (m71 : rn_Mem) =>
        if rn_in r66 24 = true then
          if rn_in r66 24 = true then
            (some (rm_j m71 (q0 + 6) r66.toNatClampNeg ((m71.2 (q0 + 6) r66.toNatClampNeg) ||| x61))).bind fun (m74 : rn_Mem) =>
            if rn_in r66 24 = true then
              (ja_min n (m74.1 (q0 + 7) r66.toNatClampNeg) a3 m74).bind fun (r78, m77) =>
              if rn_in r66 24 = true then
                (some (rm_i m77 (q0 + 7) r66.toNatClampNeg r78)).bind fun (m80 : rn_Mem) =>
                some m80
              else none
            else none
          else none
        else none
      else none
    else none
set_option maxHeartbeats 4000000 in
set_option maxRecDepth 20000 in
theorem wa_note_l21_ok (xs : List Int32) {d : Nat} (hd : 2 ≤ d + 1) {q0 : Nat} {q1 : Nat} {q2 : Nat} {a3 : Int32} {a4 : Int32} {a5 : Int32} {r : Option Value} {τ : rn_H} {out : Int32 × rn_Mem} (hr : ∀ (z6 : Int32) (mO : rn_Mem), out = (z6, mO) → ∀ (o7 o8 o9 o10 o11 o12 o13 o14 o15 : Option Value), rn_R xs (d + 1) 72 62 [some (.ref q0), some (.ref q1), some (.ref q2), some (.int a3), some (.int a4), some (.int a5), some (.int z6), o7, o8, o9, o10, o11, o12, o13, o14, o15] [] (rn_SH, mO) r τ) : ∀ (n : Nat) (a6 : Int32) (a7 : Int32) (o8 o9 o10 o11 o12 o13 o14 o15 : Option Value) (m : rn_Mem), sA_Ways q0 → sA_Game q1 → sA_Clues q2 → wa_note_l21 q0 q1 q2 a3 a4 a5 n a6 a7 m = some out → rn_R xs (d + 1) 72 21 [some (.ref q0), some (.ref q1), some (.ref q2), some (.int a3), some (.int a4), some (.int a5), some (.int a6), some (.int a7), o8, o9, o10, o11, o12, o13, o14, o15] [] (rn_SH, m) r τ := by
  intro n
  induction n with
  | zero =>
    intro _ _ _ _ _ _ _ _ _ _ _ _ _ _ h
    cases h
  | succ n ih =>
    intro a6 a7 o8 o9 o10 o11 o12 o13 o14 o15 m hq0 hq1 hq2 h
    unfold wa_note_l21 at h
    try dsimp only at h
    refine rx_p (L2 := [some (.ref q0), some (.ref q1), some (.ref q2), some (.int a3), some (.int a4), some (.int a5), some (.int a6), some (.int a7), o8, o9, o10, o11, o12, o13, o14, o15]) (S2 := [.int a7]) (pc2 := 23) op72_21 rfl rfl ?_
    refine rx_p (L2 := [some (.ref q0), some (.ref q1), some (.ref q2), some (.int a3), some (.int a4), some (.int a5), some (.int a6), some (.int a7), o8, o9, o10, o11, o12, o13, o14, o15]) (S2 := [.ref q1, .int a7]) (pc2 := 24) op72_23 rfl rfl ?_
    refine rx_gf (v := .int (m.1 q1 1)) (pc2 := 27) op72_24 hq1 rfl rfl rfl ?_
    refine ry_ic_ge (tgt := 62) (pc2 := 30) op72_27 (by decide) (by decide) rfl (fun b2 => ?_) (fun b2 => ?_)
    · have h := (if_pos b2).symm.trans h
      refine rx_p (L2 := [some (.ref q0), some (.ref q1), some (.ref q2), some (.int a3), some (.int a4), some (.int a5), some (.int a6), some (.int a7), o8, o9, o10, o11, o12, o13, o14, o15]) (S2 := [.ref q1]) (pc2 := 31) op72_30 rfl rfl ?_
      refine rx_p (L2 := [some (.ref q0), some (.ref q1), some (.ref q2), some (.int a3), some (.int a4), some (.int a5), some (.int a6), some (.int a7), o8, o9, o10, o11, o12, o13, o14, o15]) (S2 := [.int a6, .ref q1]) (pc2 := 33) op72_31 rfl rfl ?_
      refine rx_p (L2 := [some (.ref q0), some (.ref q1), some (.ref q2), some (.int a3), some (.int a4), some (.int a5), some (.int a6), some (.int a7), o8, o9, o10, o11, o12, o13, o14, o15]) (S2 := [.int a7, .int a6, .ref q1]) (pc2 := 35) op72_33 rfl rfl ?_
      refine rx_p (L2 := [some (.ref q0), some (.ref q1), some (.ref q2), some (.int a3), some (.int a4), some (.int a5), some (.int a6), some (.int a7), o8, o9, o10, o11, o12, o13, o14, o15]) (S2 := [.int a3, .int a7, .int a6, .ref q1]) (pc2 := 36) op72_35 rfl rfl ?_
      refine rx_ic (v := 4) (pc2 := 37) op72_36 (by decide) rfl ?_
      refine rx_p (L2 := [some (.ref q0), some (.ref q1), some (.ref q2), some (.int a3), some (.int a4), some (.int a5), some (.int a6), some (.int a7), o8, o9, o10, o11, o12, o13, o14, o15]) (S2 := [.ref q1, .int 4, .int a3, .int a7, .int a6, .ref q1]) (pc2 := 38) op72_37 rfl rfl ?_
      refine rx_gf (v := .int (m.1 q1 1)) (pc2 := 41) op72_38 hq1 rfl rfl rfl ?_
      refine rx_ic (v := 1) (pc2 := 42) op72_41 (by decide) rfl ?_
      refine rx_p (L2 := [some (.ref q0), some (.ref q1), some (.ref q2), some (.int a3), some (.int a4), some (.int a5), some (.int a6), some (.int a7), o8, o9, o10, o11, o12, o13, o14, o15]) (S2 := [.int ((m.1 q1 1) - 1), .int 4, .int a3, .int a7, .int a6, .ref q1]) (pc2 := 43) op72_42 rfl rfl ?_
      refine rx_p (L2 := [some (.ref q0), some (.ref q1), some (.ref q2), some (.int a3), some (.int a4), some (.int a5), some (.int a6), some (.int a7), o8, o9, o10, o11, o12, o13, o14, o15]) (S2 := [.int a7, .int ((m.1 q1 1) - 1), .int 4, .int a3, .int a7, .int a6, .ref q1]) (pc2 := 45) op72_43 rfl rfl ?_
      refine rx_p (L2 := [some (.ref q0), some (.ref q1), some (.ref q2), some (.int a3), some (.int a4), some (.int a5), some (.int a6), some (.int a7), o8, o9, o10, o11, o12, o13, o14, o15]) (S2 := [.int (((m.1 q1 1) - 1) - a7), .int 4, .int a3, .int a7, .int a6, .ref q1]) (pc2 := 46) op72_45 rfl rfl ?_
      refine rx_p (L2 := [some (.ref q0), some (.ref q1), some (.ref q2), some (.int a3), some (.int a4), some (.int a5), some (.int a6), some (.int a7), o8, o9, o10, o11, o12, o13, o14, o15]) (S2 := [.int ((4 : Int32) * (((m.1 q1 1) - 1) - a7)), .int a3, .int a7, .int a6, .ref q1]) (pc2 := 47) op72_46 rfl rfl ?_
      refine rx_p (L2 := [some (.ref q0), some (.ref q1), some (.ref q2), some (.int a3), some (.int a4), some (.int a5), some (.int a6), some (.int a7), o8, o9, o10, o11, o12, o13, o14, o15]) (S2 := [.int (a3 >>> (((4 : Int32) * (((m.1 q1 1) - 1) - a7)) &&& 31)), .int a7, .int a6, .ref q1]) (pc2 := 48) op72_47 rfl rfl ?_
      refine rx_bp (v := 15) (pc2 := 50) op72_48 (by decide) rfl ?_
      refine rx_p (L2 := [some (.ref q0), some (.ref q1), some (.ref q2), some (.int a3), some (.int a4), some (.int a5), some (.int a6), some (.int a7), o8, o9, o10, o11, o12, o13, o14, o15]) (S2 := [.int ((a3 >>> (((4 : Int32) * (((m.1 q1 1) - 1) - a7)) &&& 31)) &&& 15), .int a7, .int a6, .ref q1]) (pc2 := 51) op72_50 rfl rfl ?_
      obtain ⟨⟨r4, m3⟩, f5, h⟩ := rq_bind h
      try dsimp only at h
      refine ry_iv (p := q1) (vs := [.int a6, .int a7, .int ((a3 >>> (((4 : Int32) * (((m.1 q1 1) - 1) - a7)) &&& 31)) &&& 15)]) (T := []) (pc2 := 54) op72_51 ms_51 (by decide) rfl rfl (Nat.le_of_ble_eq_true rfl) (Nat.le_of_ble_eq_true rfl) hq1 (ga_join_ok xs (by omega) hq1 f5) rfl ?_
      show rn_R _ _ _ _ _ [.int r4] _ _ _
      refine rx_s (L2 := [some (.ref q0), some (.ref q1), some (.ref q2), some (.int a3), some (.int a4), some (.int a5), some (.int r4), some (.int a7), o8, o9, o10, o11, o12, o13, o14, o15]) (pc2 := 56) op72_54 rfl rfl rfl ?_
      obtain ⟨x6, ex6, h⟩ := rq_bv h
      refine rx_inc (w := 1) (v := x6) (L2 := [some (.ref q0), some (.ref q1), some (.ref q2), some (.int a3), some (.int a4), some (.int a5), some (.int r4), some (.int x6), o8, o9, o10, o11, o12, o13, o14, o15]) (pc2 := 59) op72_56 rfl (by decide) ex6 rfl rfl ?_
      refine ry_go (tgt := 21) op72_59 (by decide) (by decide) ?_
      exact ih _ _ _ _ _ _ _ _ _ _ _ hq0 hq1 hq2 h
    · have h := (if_neg b2).symm.trans h
      cases h
      exact hr _ _ rfl _ _ _ _ _ _ _ _ _
set_option maxHeartbeats 4000000 in
set_option maxRecDepth 20000 in
theorem wa_note_l117_ok (xs : List Int32) {d : Nat} (hd : 2 ≤ d + 1) {q0 : Nat} {q1 : Nat} {q2 : Nat} {a3 : Int32} {a4 : Int32} {a5 : Int32} {a7 : Int32} {r : Option Value} {τ : rn_H} {out : Int32 × Int32 × Int32 × Int64 × rn_Mem} (hr : ∀ (z9 : Int32) (z10 : Int32) (z11 : Int32) (z12 : Int64) (mO : rn_Mem), out = (z9, z10, z11, z12, mO) → ∀ (o1 o2 o5 o6 o8 o13 o14 o15 : Option Value), rn_R xs (d + 1) 72 208 [some (.ref q0), o1, o2, some (.int a3), some (.int a4), o5, o6, some (.int a7), o8, some (.int z9), some (.int z10), some (.int z11), some (.long z12), o13, o14, o15] [] (rn_SH, mO) r τ) : ∀ (n : Nat) (a8 : Int32) (a9 : Int32) (a10 : Int32) (a11 : Int32) (a12 : Int64) (a14 : Int32) (o6 o13 o15 : Option Value) (m : rn_Mem), sA_Ways q0 → sA_Game q1 → sA_Clues q2 → wa_note_l117 q0 q1 q2 a3 a4 a5 a7 n a8 a9 a10 a11 a12 a14 m = some out → rn_R xs (d + 1) 72 117 [some (.ref q0), some (.ref q1), some (.ref q2), some (.int a3), some (.int a4), some (.int a5), o6, some (.int a7), some (.int a8), some (.int a9), some (.int a10), some (.int a11), some (.long a12), o13, some (.int a14), o15] [] (rn_SH, m) r τ := by
  intro n
  induction n with
  | zero =>
    intro _ _ _ _ _ _ _ _ _ _ _ _ _ h
    cases h
  | succ n ih =>
    intro a8 a9 a10 a11 a12 a14 o6 o13 o15 m hq0 hq1 hq2 h
    unfold wa_note_l117 at h
    try dsimp only at h
    refine rx_p (L2 := [some (.ref q0), some (.ref q1), some (.ref q2), some (.int a3), some (.int a4), some (.int a5), o6, some (.int a7), some (.int a8), some (.int a9), some (.int a10), some (.int a11), some (.long a12), o13, some (.int a14), o15]) (S2 := [.int a14]) (pc2 := 119) op72_117 rfl rfl ?_
    refine ry_if_lt (tgt := 208) (pc2 := 122) op72_119 (by decide) (by decide) rfl (fun b36 => ?_) (fun b36 => ?_)
    · have h := (if_pos b36).symm.trans h
      cases h
      exact hr _ _ _ _ _ rfl _ _ _ _ _ _ _ _
    · have h := (if_neg b36).symm.trans h
      refine rx_p (L2 := [some (.ref q0), some (.ref q1), some (.ref q2), some (.int a3), some (.int a4), some (.int a5), o6, some (.int a7), some (.int a8), some (.int a9), some (.int a10), some (.int a11), some (.long a12), o13, some (.int a14), o15]) (S2 := [.int a3]) (pc2 := 123) op72_122 rfl rfl ?_
      refine rx_ic (v := 4) (pc2 := 124) op72_123 (by decide) rfl ?_
      refine rx_p (L2 := [some (.ref q0), some (.ref q1), some (.ref q2), some (.int a3), some (.int a4), some (.int a5), o6, some (.int a7), some (.int a8), some (.int a9), some (.int a10), some (.int a11), some (.long a12), o13, some (.int a14), o15]) (S2 := [.int a14, .int 4, .int a3]) (pc2 := 126) op72_124 rfl rfl ?_
      refine rx_p (L2 := [some (.ref q0), some (.ref q1), some (.ref q2), some (.int a3), some (.int a4), some (.int a5), o6, some (.int a7), some (.int a8), some (.int a9), some (.int a10), some (.int a11), some (.long a12), o13, some (.int a14), o15]) (S2 := [.int ((4 : Int32) * a14), .int a3]) (pc2 := 127) op72_126 rfl rfl ?_
      refine rx_p (L2 := [some (.ref q0), some (.ref q1), some (.ref q2), some (.int a3), some (.int a4), some (.int a5), o6, some (.int a7), some (.int a8), some (.int a9), some (.int a10), some (.int a11), some (.long a12), o13, some (.int a14), o15]) (S2 := [.int (a3 >>> (((4 : Int32) * a14) &&& 31))]) (pc2 := 128) op72_127 rfl rfl ?_
      refine rx_bp (v := 15) (pc2 := 130) op72_128 (by decide) rfl ?_
      refine rx_p (L2 := [some (.ref q0), some (.ref q1), some (.ref q2), some (.int a3), some (.int a4), some (.int a5), o6, some (.int a7), some (.int a8), some (.int a9), some (.int a10), some (.int a11), some (.long a12), o13, some (.int a14), o15]) (S2 := [.int ((a3 >>> (((4 : Int32) * a14) &&& 31)) &&& 15)]) (pc2 := 131) op72_130 rfl rfl ?_
      obtain ⟨x37, ex37, h⟩ := rq_bv h
      refine rx_s (v := x37) (L2 := [some (.ref q0), some (.ref q1), some (.ref q2), some (.int a3), some (.int a4), some (.int a5), o6, some (.int a7), some (.int a8), some (.int a9), some (.int a10), some (.int a11), some (.long a12), o13, some (.int a14), some (.int x37)]) (pc2 := 133) op72_131 ex37 rfl rfl ?_
      refine rx_p (L2 := [some (.ref q0), some (.ref q1), some (.ref q2), some (.int a3), some (.int a4), some (.int a5), o6, some (.int a7), some (.int a8), some (.int a9), some (.int a10), some (.int a11), some (.long a12), o13, some (.int a14), some (.int x37)]) (S2 := [.int a9]) (pc2 := 135) op72_133 rfl rfl ?_
      refine rx_p (L2 := [some (.ref q0), some (.ref q1), some (.ref q2), some (.int a3), some (.int a4), some (.int a5), o6, some (.int a7), some (.int a8), some (.int a9), some (.int a10), some (.int a11), some (.long a12), o13, some (.int a14), some (.int x37)]) (S2 := [.ref q1, .int a9]) (pc2 := 136) op72_135 rfl rfl ?_
      refine rx_p (L2 := [some (.ref q0), some (.ref q1), some (.ref q2), some (.int a3), some (.int a4), some (.int a5), o6, some (.int a7), some (.int a8), some (.int a9), some (.int a10), some (.int a11), some (.long a12), o13, some (.int a14), some (.int x37)]) (S2 := [.int x37, .ref q1, .int a9]) (pc2 := 138) op72_136 rfl rfl ?_
      refine rx_p (L2 := [some (.ref q0), some (.ref q1), some (.ref q2), some (.int a3), some (.int a4), some (.int a5), o6, some (.int a7), some (.int a8), some (.int a9), some (.int a10), some (.int a11), some (.long a12), o13, some (.int a14), some (.int x37)]) (S2 := [.int a5, .int x37, .ref q1, .int a9]) (pc2 := 140) op72_138 rfl rfl ?_
      obtain ⟨⟨r39, m38⟩, f40, h⟩ := rq_bind h
      try dsimp only at h
      refine ry_is (vs := [.ref q1, .int x37, .int a5]) (T := [.int a9]) (pc2 := 143) op72_140 (by decide) ms_73 (by decide) rfl rfl (Nat.le_of_ble_eq_true rfl) (Nat.le_of_ble_eq_true rfl) (wa_barredBy_ok xs (by omega) hq1 f40) rfl ?_
      show rn_R _ _ _ _ _ [.int r39, .int a9] _ _ _
      refine rx_ic (v := 4) (pc2 := 144) op72_143 (by decide) rfl ?_
      refine rx_p (L2 := [some (.ref q0), some (.ref q1), some (.ref q2), some (.int a3), some (.int a4), some (.int a5), o6, some (.int a7), some (.int a8), some (.int a9), some (.int a10), some (.int a11), some (.long a12), o13, some (.int a14), some (.int x37)]) (S2 := [.int a8, .int 4, .int r39, .int a9]) (pc2 := 146) op72_144 rfl rfl ?_
      refine rx_p (L2 := [some (.ref q0), some (.ref q1), some (.ref q2), some (.int a3), some (.int a4), some (.int a5), o6, some (.int a7), some (.int a8), some (.int a9), some (.int a10), some (.int a11), some (.long a12), o13, some (.int a14), some (.int x37)]) (S2 := [.int ((4 : Int32) * a8), .int r39, .int a9]) (pc2 := 147) op72_146 rfl rfl ?_
      refine rx_p (L2 := [some (.ref q0), some (.ref q1), some (.ref q2), some (.int a3), some (.int a4), some (.int a5), o6, some (.int a7), some (.int a8), some (.int a9), some (.int a10), some (.int a11), some (.long a12), o13, some (.int a14), some (.int x37)]) (S2 := [.int (r39 <<< (((4 : Int32) * a8) &&& 31)), .int a9]) (pc2 := 148) op72_147 rfl rfl ?_
      refine rx_p (L2 := [some (.ref q0), some (.ref q1), some (.ref q2), some (.int a3), some (.int a4), some (.int a5), o6, some (.int a7), some (.int a8), some (.int a9), some (.int a10), some (.int a11), some (.long a12), o13, some (.int a14), some (.int x37)]) (S2 := [.int (a9 ||| (r39 <<< (((4 : Int32) * a8) &&& 31)))]) (pc2 := 149) op72_148 rfl rfl ?_
      obtain ⟨x41, ex41, h⟩ := rq_bv h
      refine rx_s (v := x41) (L2 := [some (.ref q0), some (.ref q1), some (.ref q2), some (.int a3), some (.int a4), some (.int a5), o6, some (.int a7), some (.int a8), some (.int x41), some (.int a10), some (.int a11), some (.long a12), o13, some (.int a14), some (.int x37)]) (pc2 := 151) op72_149 ex41 rfl rfl ?_
      refine rx_p (L2 := [some (.ref q0), some (.ref q1), some (.ref q2), some (.int a3), some (.int a4), some (.int a5), o6, some (.int a7), some (.int a8), some (.int x41), some (.int a10), some (.int a11), some (.long a12), o13, some (.int a14), some (.int x37)]) (S2 := [.int a10]) (pc2 := 153) op72_151 rfl rfl ?_
      refine rx_ic (v := 1) (pc2 := 154) op72_153 (by decide) rfl ?_
      refine rx_ic (v := 4) (pc2 := 155) op72_154 (by decide) rfl ?_
      refine rx_p (L2 := [some (.ref q0), some (.ref q1), some (.ref q2), some (.int a3), some (.int a4), some (.int a5), o6, some (.int a7), some (.int a8), some (.int x41), some (.int a10), some (.int a11), some (.long a12), o13, some (.int a14), some (.int x37)]) (S2 := [.int a8, .int 4, .int 1, .int a10]) (pc2 := 157) op72_155 rfl rfl ?_
      refine rx_p (L2 := [some (.ref q0), some (.ref q1), some (.ref q2), some (.int a3), some (.int a4), some (.int a5), o6, some (.int a7), some (.int a8), some (.int x41), some (.int a10), some (.int a11), some (.long a12), o13, some (.int a14), some (.int x37)]) (S2 := [.int ((4 : Int32) * a8), .int 1, .int a10]) (pc2 := 158) op72_157 rfl rfl ?_
      refine rx_p (L2 := [some (.ref q0), some (.ref q1), some (.ref q2), some (.int a3), some (.int a4), some (.int a5), o6, some (.int a7), some (.int a8), some (.int x41), some (.int a10), some (.int a11), some (.long a12), o13, some (.int a14), some (.int x37)]) (S2 := [.int x37, .int ((4 : Int32) * a8), .int 1, .int a10]) (pc2 := 160) op72_158 rfl rfl ?_
      refine rx_ic (v := 2) (pc2 := 161) op72_160 (by decide) rfl ?_
      refine rx_p (L2 := [some (.ref q0), some (.ref q1), some (.ref q2), some (.int a3), some (.int a4), some (.int a5), o6, some (.int a7), some (.int a8), some (.int x41), some (.int a10), some (.int a11), some (.long a12), o13, some (.int a14), some (.int x37)]) (S2 := [.int (x37 >>> (2 &&& 31)), .int ((4 : Int32) * a8), .int 1, .int a10]) (pc2 := 162) op72_161 rfl rfl ?_
      refine rx_p (L2 := [some (.ref q0), some (.ref q1), some (.ref q2), some (.int a3), some (.int a4), some (.int a5), o6, some (.int a7), some (.int a8), some (.int x41), some (.int a10), some (.int a11), some (.long a12), o13, some (.int a14), some (.int x37)]) (S2 := [.int (((4 : Int32) * a8) + (x37 >>> (2 &&& 31))), .int 1, .int a10]) (pc2 := 163) op72_162 rfl rfl ?_
      refine rx_p (L2 := [some (.ref q0), some (.ref q1), some (.ref q2), some (.int a3), some (.int a4), some (.int a5), o6, some (.int a7), some (.int a8), some (.int x41), some (.int a10), some (.int a11), some (.long a12), o13, some (.int a14), some (.int x37)]) (S2 := [.int ((1 : Int32) <<< ((((4 : Int32) * a8) + (x37 >>> (2 &&& 31))) &&& 31)), .int a10]) (pc2 := 164) op72_163 rfl rfl ?_
      refine rx_p (L2 := [some (.ref q0), some (.ref q1), some (.ref q2), some (.int a3), some (.int a4), some (.int a5), o6, some (.int a7), some (.int a8), some (.int x41), some (.int a10), some (.int a11), some (.long a12), o13, some (.int a14), some (.int x37)]) (S2 := [.int (a10 ||| ((1 : Int32) <<< ((((4 : Int32) * a8) + (x37 >>> (2 &&& 31))) &&& 31)))]) (pc2 := 165) op72_164 rfl rfl ?_
      obtain ⟨x42, ex42, h⟩ := rq_bv h
      refine rx_s (v := x42) (L2 := [some (.ref q0), some (.ref q1), some (.ref q2), some (.int a3), some (.int a4), some (.int a5), o6, some (.int a7), some (.int a8), some (.int x41), some (.int x42), some (.int a11), some (.long a12), o13, some (.int a14), some (.int x37)]) (pc2 := 167) op72_165 ex42 rfl rfl ?_
      refine rx_p (L2 := [some (.ref q0), some (.ref q1), some (.ref q2), some (.int a3), some (.int a4), some (.int a5), o6, some (.int a7), some (.int a8), some (.int x41), some (.int x42), some (.int a11), some (.long a12), o13, some (.int a14), some (.int x37)]) (S2 := [.int a11]) (pc2 := 169) op72_167 rfl rfl ?_
      refine rx_p (L2 := [some (.ref q0), some (.ref q1), some (.ref q2), some (.int a3), some (.int a4), some (.int a5), o6, some (.int a7), some (.int a8), some (.int x41), some (.int x42), some (.int a11), some (.long a12), o13, some (.int a14), some (.int x37)]) (S2 := [.ref q2, .int a11]) (pc2 := 170) op72_169 rfl rfl ?_
      refine rx_p (L2 := [some (.ref q0), some (.ref q1), some (.ref q2), some (.int a3), some (.int a4), some (.int a5), o6, some (.int a7), some (.int a8), some (.int x41), some (.int x42), some (.int a11), some (.long a12), o13, some (.int a14), some (.int x37)]) (S2 := [.int a8, .ref q2, .int a11]) (pc2 := 172) op72_170 rfl rfl ?_
      refine rx_p (L2 := [some (.ref q0), some (.ref q1), some (.ref q2), some (.int a3), some (.int a4), some (.int a5), o6, some (.int a7), some (.int a8), some (.int x41), some (.int x42), some (.int a11), some (.long a12), o13, some (.int a14), some (.int x37)]) (S2 := [.int x37, .int a8, .ref q2, .int a11]) (pc2 := 174) op72_172 rfl rfl ?_
      obtain ⟨⟨r44, m43⟩, f45, h⟩ := rq_bind h
      try dsimp only at h
      refine ry_iv (p := q2) (vs := [.int a8, .int x37]) (T := [.int a11]) (pc2 := 177) op72_174 ms_74 (by decide) rfl rfl (Nat.le_of_ble_eq_true rfl) (Nat.le_of_ble_eq_true rfl) (hq2.1) (cl_againstHolding_ok xs (by omega) hq2 f45) rfl ?_
      show rn_R _ _ _ _ _ [.int r44, .int a11] _ _ _
      refine rx_p (L2 := [some (.ref q0), some (.ref q1), some (.ref q2), some (.int a3), some (.int a4), some (.int a5), o6, some (.int a7), some (.int a8), some (.int x41), some (.int x42), some (.int a11), some (.long a12), o13, some (.int a14), some (.int x37)]) (S2 := [.int (a11 ||| r44)]) (pc2 := 178) op72_177 rfl rfl ?_
      obtain ⟨x46, ex46, h⟩ := rq_bv h
      refine rx_s (v := x46) (L2 := [some (.ref q0), some (.ref q1), some (.ref q2), some (.int a3), some (.int a4), some (.int a5), o6, some (.int a7), some (.int a8), some (.int x41), some (.int x42), some (.int x46), some (.long a12), o13, some (.int a14), some (.int x37)]) (pc2 := 180) op72_178 ex46 rfl rfl ?_
      refine rx_p (L2 := [some (.ref q0), some (.ref q1), some (.ref q2), some (.int a3), some (.int a4), some (.int a5), o6, some (.int a7), some (.int a8), some (.int x41), some (.int x42), some (.int x46), some (.long a12), o13, some (.int a14), some (.int x37)]) (S2 := [.long a12]) (pc2 := 182) op72_180 rfl rfl ?_
      refine rx_lc (v := 1) (pc2 := 183) op72_182 (by decide) rfl ?_
      refine rx_ic (v := 4) (pc2 := 184) op72_183 (by decide) rfl ?_
      refine rx_p (L2 := [some (.ref q0), some (.ref q1), some (.ref q2), some (.int a3), some (.int a4), some (.int a5), o6, some (.int a7), some (.int a8), some (.int x41), some (.int x42), some (.int x46), some (.long a12), o13, some (.int a14), some (.int x37)]) (S2 := [.int x37, .int 4, .long 1, .long a12]) (pc2 := 186) op72_184 rfl rfl ?_
      refine rx_p (L2 := [some (.ref q0), some (.ref q1), some (.ref q2), some (.int a3), some (.int a4), some (.int a5), o6, some (.int a7), some (.int a8), some (.int x41), some (.int x42), some (.int x46), some (.long a12), o13, some (.int a14), some (.int x37)]) (S2 := [.int ((4 : Int32) * x37), .long 1, .long a12]) (pc2 := 187) op72_186 rfl rfl ?_
      refine rx_p (L2 := [some (.ref q0), some (.ref q1), some (.ref q2), some (.int a3), some (.int a4), some (.int a5), o6, some (.int a7), some (.int a8), some (.int x41), some (.int x42), some (.int x46), some (.long a12), o13, some (.int a14), some (.int x37)]) (S2 := [.int a8, .int ((4 : Int32) * x37), .long 1, .long a12]) (pc2 := 189) op72_187 rfl rfl ?_
      refine rx_p (L2 := [some (.ref q0), some (.ref q1), some (.ref q2), some (.int a3), some (.int a4), some (.int a5), o6, some (.int a7), some (.int a8), some (.int x41), some (.int x42), some (.int x46), some (.long a12), o13, some (.int a14), some (.int x37)]) (S2 := [.int (((4 : Int32) * x37) + a8), .long 1, .long a12]) (pc2 := 190) op72_189 rfl rfl ?_
      refine rx_p (L2 := [some (.ref q0), some (.ref q1), some (.ref q2), some (.int a3), some (.int a4), some (.int a5), o6, some (.int a7), some (.int a8), some (.int x41), some (.int x42), some (.int x46), some (.long a12), o13, some (.int a14), some (.int x37)]) (S2 := [.long ((1 : Int64) <<< ((((4 : Int32) * x37) + a8).toInt64 &&& 63)), .long a12]) (pc2 := 191) op72_190 rfl rfl ?_
      refine rx_p (L2 := [some (.ref q0), some (.ref q1), some (.ref q2), some (.int a3), some (.int a4), some (.int a5), o6, some (.int a7), some (.int a8), some (.int x41), some (.int x42), some (.int x46), some (.long a12), o13, some (.int a14), some (.int x37)]) (S2 := [.long (a12 ||| ((1 : Int64) <<< ((((4 : Int32) * x37) + a8).toInt64 &&& 63)))]) (pc2 := 192) op72_191 rfl rfl ?_
      obtain ⟨x47, ex47, h⟩ := rq_bv h
      refine rx_sl (v := x47) (L2 := [some (.ref q0), some (.ref q1), some (.ref q2), some (.int a3), some (.int a4), some (.int a5), o6, some (.int a7), some (.int a8), some (.int x41), some (.int x42), some (.int x46), some (.long x47), none, some (.int a14), some (.int x37)]) (pc2 := 194) op72_192 ex47 rfl rfl ?_
      refine rx_p (L2 := [some (.ref q0), some (.ref q1), some (.ref q2), some (.int a3), some (.int a4), some (.int a5), o6, some (.int a7), some (.int a8), some (.int x41), some (.int x42), some (.int x46), some (.long x47), none, some (.int a14), some (.int x37)]) (S2 := [.ref q1]) (pc2 := 195) op72_194 rfl rfl ?_
      refine rx_p (L2 := [some (.ref q0), some (.ref q1), some (.ref q2), some (.int a3), some (.int a4), some (.int a5), o6, some (.int a7), some (.int a8), some (.int x41), some (.int x42), some (.int x46), some (.long x47), none, some (.int a14), some (.int x37)]) (S2 := [.int a8, .ref q1]) (pc2 := 197) op72_195 rfl rfl ?_
      obtain ⟨⟨r49, m48⟩, f50, h⟩ := rq_bind h
      try dsimp only at h
      refine ry_iv (p := q1) (vs := [.int a8]) (T := []) (pc2 := 200) op72_197 ms_53 (by decide) rfl rfl (Nat.le_of_ble_eq_true rfl) (Nat.le_of_ble_eq_true rfl) hq1 (ga_next_ok xs (by omega) hq1 f50) rfl ?_
      show rn_R _ _ _ _ _ [.int r49] _ _ _
      refine rx_s (L2 := [some (.ref q0), some (.ref q1), some (.ref q2), some (.int a3), some (.int a4), some (.int a5), o6, some (.int a7), some (.int r49), some (.int x41), some (.int x42), some (.int x46), some (.long x47), none, some (.int a14), some (.int x37)]) (pc2 := 202) op72_200 rfl rfl rfl ?_
      obtain ⟨x51, ex51, h⟩ := rq_bv h
      refine rx_inc (w := (-1)) (v := x51) (L2 := [some (.ref q0), some (.ref q1), some (.ref q2), some (.int a3), some (.int a4), some (.int a5), o6, some (.int a7), some (.int r49), some (.int x41), some (.int x42), some (.int x46), some (.long x47), none, some (.int x51), some (.int x37)]) (pc2 := 205) op72_202 rfl (by decide) ex51 rfl rfl ?_
      refine ry_go (tgt := 117) op72_205 (by decide) (by decide) ?_
      exact ih _ _ _ _ _ _ _ _ _ _ hq0 hq1 hq2 h
set_option maxHeartbeats 4000000 in
set_option maxRecDepth 20000 in
theorem wa_note_ok (xs : List Int32) {d : Nat} (hd : 2 ≤ d) {n : Nat} {q0 : Nat} {q1 : Nat} {q2 : Nat} {a3 : Int32} {a4 : Int32} {m mO : rn_Mem} (hq0 : sA_Ways q0) (hq1 : sA_Game q1) (hq2 : sA_Clues q2) (h : wa_note n q0 q1 q2 a3 a4 m = some mO) : rn_R xs d 72 0 (rn_ent 16 [.ref q0, .ref q1, .ref q2, .int a3, .int a4]) [] (rn_SH, m) none (rn_SH, mO) := by
  obtain ⟨d, rfl⟩ : ∃ e, d = e + 1 := ⟨d - 1, by omega⟩
  unfold wa_note at h
  show rn_R xs (d + 1) 72 0 [some (.ref q0), some (.ref q1), some (.ref q2), some (.int a3), some (.int a4), none, none, none, none, none, none, none, none, none, none, none] [] (rn_SH, m) none (rn_SH, mO)
  refine rx_p (L2 := [some (.ref q0), some (.ref q1), some (.ref q2), some (.int a3), some (.int a4), none, none, none, none, none, none, none, none, none, none, none]) (S2 := [.int a3]) (pc2 := 1) op72_0 rfl rfl ?_
  refine rx_ic (v := 4) (pc2 := 2) op72_1 (by decide) rfl ?_
  refine rx_p (L2 := [some (.ref q0), some (.ref q1), some (.ref q2), some (.int a3), some (.int a4), none, none, none, none, none, none, none, none, none, none, none]) (S2 := [.ref q1, .int 4, .int a3]) (pc2 := 3) op72_2 rfl rfl ?_
  refine rx_gf (v := .int (m.1 q1 1)) (pc2 := 6) op72_3 hq1 rfl rfl rfl ?_
  refine rx_ic (v := 1) (pc2 := 7) op72_6 (by decide) rfl ?_
  refine rx_p (L2 := [some (.ref q0), some (.ref q1), some (.ref q2), some (.int a3), some (.int a4), none, none, none, none, none, none, none, none, none, none, none]) (S2 := [.int ((m.1 q1 1) - 1), .int 4, .int a3]) (pc2 := 8) op72_7 rfl rfl ?_
  refine rx_p (L2 := [some (.ref q0), some (.ref q1), some (.ref q2), some (.int a3), some (.int a4), none, none, none, none, none, none, none, none, none, none, none]) (S2 := [.int ((4 : Int32) * ((m.1 q1 1) - 1)), .int a3]) (pc2 := 9) op72_8 rfl rfl ?_
  refine rx_p (L2 := [some (.ref q0), some (.ref q1), some (.ref q2), some (.int a3), some (.int a4), none, none, none, none, none, none, none, none, none, none, none]) (S2 := [.int (a3 >>> (((4 : Int32) * ((m.1 q1 1) - 1)) &&& 31))]) (pc2 := 10) op72_9 rfl rfl ?_
  refine rx_bp (v := 15) (pc2 := 12) op72_10 (by decide) rfl ?_
  refine rx_p (L2 := [some (.ref q0), some (.ref q1), some (.ref q2), some (.int a3), some (.int a4), none, none, none, none, none, none, none, none, none, none, none]) (S2 := [.int ((a3 >>> (((4 : Int32) * ((m.1 q1 1) - 1)) &&& 31)) &&& 15)]) (pc2 := 13) op72_12 rfl rfl ?_
  obtain ⟨x1, ex1, h⟩ := rq_bv h
  refine rx_s (v := x1) (L2 := [some (.ref q0), some (.ref q1), some (.ref q2), some (.int a3), some (.int a4), some (.int x1), none, none, none, none, none, none, none, none, none, none]) (pc2 := 15) op72_13 ex1 rfl rfl ?_
  refine rx_ic (v := (-1)) (pc2 := 16) op72_15 (by decide) rfl ?_
  refine rx_s (L2 := [some (.ref q0), some (.ref q1), some (.ref q2), some (.int a3), some (.int a4), some (.int x1), some (.int (-1)), none, none, none, none, none, none, none, none, none]) (pc2 := 18) op72_16 rfl rfl rfl ?_
  refine rx_ic (v := 0) (pc2 := 19) op72_18 (by decide) rfl ?_
  refine rx_s (L2 := [some (.ref q0), some (.ref q1), some (.ref q2), some (.int a3), some (.int a4), some (.int x1), some (.int (-1)), some (.int 0), none, none, none, none, none, none, none, none]) (pc2 := 21) op72_19 rfl rfl rfl ?_
  obtain ⟨wf84, f84, h⟩ := rq_bind h
  refine wa_note_l21_ok xs hd (fun x8 m7 eq => ?_) _ _ _ _ _ _ _ _ _ _ _ _ hq0 hq1 hq2 f84
  subst eq
  try dsimp only at h
  intro o9 o10 o11 o12 o13 o14 o15 o16 o17
  refine rx_p (L2 := [some (.ref q0), some (.ref q1), some (.ref q2), some (.int a3), some (.int a4), some (.int x1), some (.int x8), o9, o10, o11, o12, o13, o14, o15, o16, o17]) (S2 := [.ref q0]) (pc2 := 63) op72_62 rfl rfl ?_
  refine rx_gf (v := .int (m7.1 q0 0)) (pc2 := 66) op72_63 (hq0.1) rfl rfl rfl ?_
  refine rx_p (L2 := [some (.ref q0), some (.ref q1), some (.ref q2), some (.int a3), some (.int a4), some (.int x1), some (.int x8), o9, o10, o11, o12, o13, o14, o15, o16, o17]) (S2 := [.int x8, .int (m7.1 q0 0)]) (pc2 := 68) op72_66 rfl rfl ?_
  obtain ⟨⟨r19, m18⟩, f20, h⟩ := rq_bind h
  try dsimp only at h
  refine ry_is (vs := [.int x8]) (T := [.int (m7.1 q0 0)]) (pc2 := 71) op72_68 (by decide) ms_54 (by decide) rfl rfl (Nat.le_of_ble_eq_true rfl) (Nat.le_of_ble_eq_true rfl) (ga_winnerOf_ok xs (by omega)  f20) rfl ?_
  show rn_R _ _ _ _ _ [.int r19, .int (m7.1 q0 0)] _ _ _
  refine rx_p (L2 := [some (.ref q0), some (.ref q1), some (.ref q2), some (.int a3), some (.int a4), some (.int x1), some (.int x8), o9, o10, o11, o12, o13, o14, o15, o16, o17]) (S2 := [.int ((m7.1 q0 0) - r19)]) (pc2 := 72) op72_71 rfl rfl ?_
  obtain ⟨x21, ex21, h⟩ := rq_bv h
  refine rx_s (v := x21) (L2 := [some (.ref q0), some (.ref q1), some (.ref q2), some (.int a3), some (.int a4), some (.int x1), some (.int x8), some (.int x21), o10, o11, o12, o13, o14, o15, o16, o17]) (pc2 := 74) op72_72 ex21 rfl rfl ?_
  refine rx_p (L2 := [some (.ref q0), some (.ref q1), some (.ref q2), some (.int a3), some (.int a4), some (.int x1), some (.int x8), some (.int x21), o10, o11, o12, o13, o14, o15, o16, o17]) (S2 := [.int x21]) (pc2 := 76) op72_74 rfl rfl ?_
  obtain ⟨x33, gc83, h⟩ := rq_bind h
  try dsimp only at h
  have c83 : ∀ (o23 o24 o25 o26 o27 o28 o29 o30 o31 o32 : Option Value), rn_R xs (d + 1) 72 91 [some (.ref q0), some (.ref q1), some (.ref q2), some (.int a3), some (.int a4), some (.int x1), o23, o24, o25, o26, o27, o28, o29, o30, o31, o32] [.int x33] (rn_SH, m18) none (rn_SH, mO) := by
    intro o23 o24 o25 o26 o27 o28 o29 o30 o31 o32
    refine rx_sd (v := x33) (j := 6) (pc2 := 93) op72_91 rfl rfl (Nat.le_of_ble_eq_true rfl) rfl (fun o34 => ?_)
    show rn_R _ _ _ _ [some (.ref q0), some (.ref q1), some (.ref q2), some (.int a3), some (.int a4), some (.int x1), o34, some (.int x33), o25, o26, o27, o28, o29, o30, o31, o32] _ _ _ _
    refine rx_p (L2 := [some (.ref q0), some (.ref q1), some (.ref q2), some (.int a3), some (.int a4), some (.int x1), o34, some (.int x33), o25, o26, o27, o28, o29, o30, o31, o32]) (S2 := [.int x33]) (pc2 := 95) op72_93 rfl rfl ?_
    refine rx_s (L2 := [some (.ref q0), some (.ref q1), some (.ref q2), some (.int a3), some (.int a4), some (.int x1), o34, some (.int x33), some (.int x33), o26, o27, o28, o29, o30, o31, o32]) (pc2 := 97) op72_95 rfl rfl rfl ?_
    refine rx_ic (v := 0) (pc2 := 98) op72_97 (by decide) rfl ?_
    refine rx_s (L2 := [some (.ref q0), some (.ref q1), some (.ref q2), some (.int a3), some (.int a4), some (.int x1), o34, some (.int x33), some (.int x33), some (.int 0), o27, o28, o29, o30, o31, o32]) (pc2 := 100) op72_98 rfl rfl rfl ?_
    refine rx_ic (v := 0) (pc2 := 101) op72_100 (by decide) rfl ?_
    refine rx_s (L2 := [some (.ref q0), some (.ref q1), some (.ref q2), some (.int a3), some (.int a4), some (.int x1), o34, some (.int x33), some (.int x33), some (.int 0), some (.int 0), o28, o29, o30, o31, o32]) (pc2 := 103) op72_101 rfl rfl rfl ?_
    refine rx_ic (v := 0) (pc2 := 104) op72_103 (by decide) rfl ?_
    refine rx_s (L2 := [some (.ref q0), some (.ref q1), some (.ref q2), some (.int a3), some (.int a4), some (.int x1), o34, some (.int x33), some (.int x33), some (.int 0), some (.int 0), some (.int 0), o29, o30, o31, o32]) (pc2 := 106) op72_104 rfl rfl rfl ?_
    refine rx_lc (v := 0) (pc2 := 107) op72_106 (by decide) rfl ?_
    refine rx_sl (L2 := [some (.ref q0), some (.ref q1), some (.ref q2), some (.int a3), some (.int a4), some (.int x1), o34, some (.int x33), some (.int x33), some (.int 0), some (.int 0), some (.int 0), some (.long 0), none, o31, o32]) (pc2 := 109) op72_107 rfl rfl rfl ?_
    refine rx_p (L2 := [some (.ref q0), some (.ref q1), some (.ref q2), some (.int a3), some (.int a4), some (.int x1), o34, some (.int x33), some (.int x33), some (.int 0), some (.int 0), some (.int 0), some (.long 0), none, o31, o32]) (S2 := [.ref q1]) (pc2 := 110) op72_109 rfl rfl ?_
    refine rx_gf (v := .int (m18.1 q1 1)) (pc2 := 113) op72_110 hq1 rfl rfl rfl ?_
    refine rx_ic (v := 1) (pc2 := 114) op72_113 (by decide) rfl ?_
    refine rx_p (L2 := [some (.ref q0), some (.ref q1), some (.ref q2), some (.int a3), some (.int a4), some (.int x1), o34, some (.int x33), some (.int x33), some (.int 0), some (.int 0), some (.int 0), some (.long 0), none, o31, o32]) (S2 := [.int ((m18.1 q1 1) - 1)]) (pc2 := 115) op72_114 rfl rfl ?_
    obtain ⟨x35, ex35, h⟩ := rq_bv h
    refine rx_s (v := x35) (L2 := [some (.ref q0), some (.ref q1), some (.ref q2), some (.int a3), some (.int a4), some (.int x1), o34, some (.int x33), some (.int x33), some (.int 0), some (.int 0), some (.int 0), some (.long 0), none, some (.int x35), o32]) (pc2 := 117) op72_115 ex35 rfl rfl ?_
    obtain ⟨wf82, f82, h⟩ := rq_bind h
    refine wa_note_l117_ok xs hd (fun x58 x59 x60 x61 m52 eq => ?_) _ _ _ _ _ _ _ _ _ _ _ hq0 hq1 hq2 f82
    subst eq
    try dsimp only at h
    intro o53 o54 o55 o56 o57 o62 o63 o64
    refine rx_p (L2 := [some (.ref q0), o53, o54, some (.int a3), some (.int a4), o55, o56, some (.int x33), o57, some (.int x58), some (.int x59), some (.int x60), some (.long x61), o62, o63, o64]) (S2 := [.ref q0]) (pc2 := 209) op72_208 rfl rfl ?_
    refine rx_p (L2 := [some (.ref q0), o53, o54, some (.int a3), some (.int a4), o55, o56, some (.int x33), o57, some (.int x58), some (.int x59), some (.int x60), some (.long x61), o62, o63, o64]) (S2 := [.int x33, .ref q0]) (pc2 := 211) op72_209 rfl rfl ?_
    refine rx_p (L2 := [some (.ref q0), o53, o54, some (.int a3), some (.int a4), o55, o56, some (.int x33), o57, some (.int x58), some (.int x59), some (.int x60), some (.long x61), o62, o63, o64]) (S2 := [.int x58, .int x33, .ref q0]) (pc2 := 213) op72_211 rfl rfl ?_
    refine rx_p (L2 := [some (.ref q0), o53, o54, some (.int a3), some (.int a4), o55, o56, some (.int x33), o57, some (.int x58), some (.int x59), some (.int x60), some (.long x61), o62, o63, o64]) (S2 := [.int x59, .int x58, .int x33, .ref q0]) (pc2 := 215) op72_213 rfl rfl ?_
    refine rx_p (L2 := [some (.ref q0), o53, o54, some (.int a3), some (.int a4), o55, o56, some (.int x33), o57, some (.int x58), some (.int x59), some (.int x60), some (.long x61), o62, o63, o64]) (S2 := [.int a4, .int x59, .int x58, .int x33, .ref q0]) (pc2 := 217) op72_215 rfl rfl ?_
    refine rx_p (L2 := [some (.ref q0), o53, o54, some (.int a3), some (.int a4), o55, o56, some (.int x33), o57, some (.int x58), some (.int x59), some (.int x60), some (.long x61), o62, o63, o64]) (S2 := [.int (x59 &&& a4), .int x58, .int x33, .ref q0]) (pc2 := 218) op72_217 rfl rfl ?_
    refine rx_p (L2 := [some (.ref q0), o53, o54, some (.int a3), some (.int a4), o55, o56, some (.int x33), o57, some (.int x58), some (.int x59), some (.int x60), some (.long x61), o62, o63, o64]) (S2 := [.int x60, .int (x59 &&& a4), .int x58, .int x33, .ref q0]) (pc2 := 220) op72_218 rfl rfl ?_
    obtain ⟨⟨r66, m65⟩, f67, h⟩ := rq_bind h
    try dsimp only at h
    refine ry_iv (p := q0) (vs := [.int x33, .int x58, .int (x59 &&& a4), .int x60]) (T := []) (pc2 := 223) op72_220 ms_75 (by decide) rfl rfl (Nat.le_of_ble_eq_true rfl) (Nat.le_of_ble_eq_true rfl) (hq0.1) (wa_find_ok xs (by omega) hq0 f67) rfl ?_
    show rn_R _ _ _ _ _ [.int r66] _ _ _
    refine rx_sd (v := r66) (j := 13) (pc2 := 225) op72_223 rfl rfl (Nat.le_of_ble_eq_true rfl) rfl (fun o68 => ?_)
    show rn_R _ _ _ _ [some (.ref q0), o53, o54, some (.int a3), some (.int a4), o55, o56, some (.int x33), o57, some (.int x58), some (.int x59), some (.int x60), some (.long x61), o68, some (.int r66), o64] _ _ _ _
    refine rx_p (L2 := [some (.ref q0), o53, o54, some (.int a3), some (.int a4), o55, o56, some (.int x33), o57, some (.int x58), some (.int x59), some (.int x60), some (.long x61), o68, some (.int r66), o64]) (S2 := [.int r66]) (pc2 := 227) op72_225 rfl rfl ?_
    refine ry_if_ge (tgt := 231) (pc2 := 230) op72_227 (by decide) (by decide) rfl (fun b69 => ?_) (fun b69 => ?_)
    · have h := (if_pos b69).symm.trans h
      obtain rfl := Option.some.inj h
      exact ry_rv op72_230 ms_72 rfl
    · have h := (if_neg b69).symm.trans h
      refine rx_p (L2 := [some (.ref q0), o53, o54, some (.int a3), some (.int a4), o55, o56, some (.int x33), o57, some (.int x58), some (.int x59), some (.int x60), some (.long x61), o68, some (.int r66), o64]) (S2 := [.ref q0]) (pc2 := 232) op72_231 rfl rfl ?_
      refine rx_gf (v := .ref (q0 + 5)) (pc2 := 235) op72_232 (hq0.1) rfl rfl rfl ?_
      refine rx_p (L2 := [some (.ref q0), o53, o54, some (.int a3), some (.int a4), o55, o56, some (.int x33), o57, some (.int x58), some (.int x59), some (.int x60), some (.long x61), o68, some (.int r66), o64]) (S2 := [.int r66, .ref (q0 + 5)]) (pc2 := 237) op72_235 rfl rfl ?_
      refine rx_p (L2 := [some (.ref q0), o53, o54, some (.int a3), some (.int a4), o55, o56, some (.int x33), o57, some (.int x58), some (.int x59), some (.int x60), some (.long x61), o68, some (.int r66), o64]) (S2 := [.int r66, .ref (q0 + 5), .int r66, .ref (q0 + 5)]) (pc2 := 238) op72_237 rfl rfl ?_
      obtain ⟨k70, h⟩ := rq_chk h
      refine rx_ia (pc2 := 239) op72_238 (rn_shlt (hq0.2.2.2.2.2.1)) (hq0.2.2.2.2.2.1) k70 rfl rfl ?_
      refine rx_ic (v := 1) (pc2 := 240) op72_239 (by decide) rfl ?_
      refine rx_p (L2 := [some (.ref q0), o53, o54, some (.int a3), some (.int a4), o55, o56, some (.int x33), o57, some (.int x58), some (.int x59), some (.int x60), some (.long x61), o68, some (.int r66), o64]) (S2 := [.int ((m65.1 (q0 + 5) r66.toNatClampNeg) + 1), .int r66, .ref (q0 + 5)]) (pc2 := 241) op72_240 rfl rfl ?_
      obtain ⟨k72, h⟩ := rq_chk h
      obtain ⟨m71, em71, h⟩ := rq_bv h
      refine rx_is (m2 := m71) (pc2 := 242) op72_241 (hq0.2.2.2.2.2.1) k72 rfl em71 rfl ?_
      refine rx_p (L2 := [some (.ref q0), o53, o54, some (.int a3), some (.int a4), o55, o56, some (.int x33), o57, some (.int x58), some (.int x59), some (.int x60), some (.long x61), o68, some (.int r66), o64]) (S2 := [.ref q0]) (pc2 := 243) op72_242 rfl rfl ?_
      refine rx_gf (v := .ref (q0 + 6)) (pc2 := 246) op72_243 (hq0.1) rfl rfl rfl ?_
      refine rx_p (L2 := [some (.ref q0), o53, o54, some (.int a3), some (.int a4), o55, o56, some (.int x33), o57, some (.int x58), some (.int x59), some (.int x60), some (.long x61), o68, some (.int r66), o64]) (S2 := [.int r66, .ref (q0 + 6)]) (pc2 := 248) op72_246 rfl rfl ?_
      refine rx_p (L2 := [some (.ref q0), o53, o54, some (.int a3), some (.int a4), o55, o56, some (.int x33), o57, some (.int x58), some (.int x59), some (.int x60), some (.long x61), o68, some (.int r66), o64]) (S2 := [.int r66, .ref (q0 + 6), .int r66, .ref (q0 + 6)]) (pc2 := 249) op72_248 rfl rfl ?_
      obtain ⟨k73, h⟩ := rq_chk h
      refine rx_la (pc2 := 250) op72_249 (hq0.2.2.2.2.2.2.1) k73 rfl rfl ?_
      refine rx_p (L2 := [some (.ref q0), o53, o54, some (.int a3), some (.int a4), o55, o56, some (.int x33), o57, some (.int x58), some (.int x59), some (.int x60), some (.long x61), o68, some (.int r66), o64]) (S2 := [.long x61, .long (m71.2 (q0 + 6) r66.toNatClampNeg), .int r66, .ref (q0 + 6)]) (pc2 := 252) op72_250 rfl rfl ?_
      refine rx_p (L2 := [some (.ref q0), o53, o54, some (.int a3), some (.int a4), o55, o56, some (.int x33), o57, some (.int x58), some (.int x59), some (.int x60), some (.long x61), o68, some (.int r66), o64]) (S2 := [.long ((m71.2 (q0 + 6) r66.toNatClampNeg) ||| x61), .int r66, .ref (q0 + 6)]) (pc2 := 253) op72_252 rfl rfl ?_
      obtain ⟨k75, h⟩ := rq_chk h
      obtain ⟨m74, em74, h⟩ := rq_bv h
      refine rx_ls (m2 := m74) (pc2 := 254) op72_253 (hq0.2.2.2.2.2.2.1) k75 rfl em74 rfl ?_
      refine rx_p (L2 := [some (.ref q0), o53, o54, some (.int a3), some (.int a4), o55, o56, some (.int x33), o57, some (.int x58), some (.int x59), some (.int x60), some (.long x61), o68, some (.int r66), o64]) (S2 := [.ref q0]) (pc2 := 255) op72_254 rfl rfl ?_
      refine rx_gf (v := .ref (q0 + 7)) (pc2 := 258) op72_255 (hq0.1) rfl rfl rfl ?_
      refine rx_p (L2 := [some (.ref q0), o53, o54, some (.int a3), some (.int a4), o55, o56, some (.int x33), o57, some (.int x58), some (.int x59), some (.int x60), some (.long x61), o68, some (.int r66), o64]) (S2 := [.int r66, .ref (q0 + 7)]) (pc2 := 260) op72_258 rfl rfl ?_
      refine rx_p (L2 := [some (.ref q0), o53, o54, some (.int a3), some (.int a4), o55, o56, some (.int x33), o57, some (.int x58), some (.int x59), some (.int x60), some (.long x61), o68, some (.int r66), o64]) (S2 := [.ref q0, .int r66, .ref (q0 + 7)]) (pc2 := 261) op72_260 rfl rfl ?_
      refine rx_gf (v := .ref (q0 + 7)) (pc2 := 264) op72_261 (hq0.1) rfl rfl rfl ?_
      refine rx_p (L2 := [some (.ref q0), o53, o54, some (.int a3), some (.int a4), o55, o56, some (.int x33), o57, some (.int x58), some (.int x59), some (.int x60), some (.long x61), o68, some (.int r66), o64]) (S2 := [.int r66, .ref (q0 + 7), .int r66, .ref (q0 + 7)]) (pc2 := 266) op72_264 rfl rfl ?_
      obtain ⟨k76, h⟩ := rq_chk h
      refine rx_ia (pc2 := 267) op72_266 (rn_shlt (hq0.2.2.2.2.2.2.2)) (hq0.2.2.2.2.2.2.2) k76 rfl rfl ?_
      refine rx_p (L2 := [some (.ref q0), o53, o54, some (.int a3), some (.int a4), o55, o56, some (.int x33), o57, some (.int x58), some (.int x59), some (.int x60), some (.long x61), o68, some (.int r66), o64]) (S2 := [.int a3, .int (m74.1 (q0 + 7) r66.toNatClampNeg), .int r66, .ref (q0 + 7)]) (pc2 := 268) op72_267 rfl rfl ?_
      obtain ⟨⟨r78, m77⟩, f79, h⟩ := rq_bind h
      try dsimp only at h
      refine ry_is (vs := [.int (m74.1 (q0 + 7) r66.toNatClampNeg), .int a3]) (T := [.int r66, .ref (q0 + 7)]) (pc2 := 271) op72_268 (by decide) ms_21 (by decide) rfl rfl (Nat.le_of_ble_eq_true rfl) (Nat.le_of_ble_eq_true rfl) (ja_min_ok xs (by omega)  f79) rfl ?_
      show rn_R _ _ _ _ _ [.int r78, .int r66, .ref (q0 + 7)] _ _ _
      obtain ⟨k81, h⟩ := rq_chk h
      obtain ⟨m80, em80, h⟩ := rq_bv h
      refine rx_is (m2 := m80) (pc2 := 272) op72_271 (hq0.2.2.2.2.2.2.2) k81 rfl em80 rfl ?_
      obtain rfl := Option.some.inj h
      exact ry_rv op72_272 ms_72 rfl
  refine ry_if_ge (tgt := 89) (pc2 := 79) op72_76 (by decide) (by decide) rfl (fun b22 => ?_) (fun b22 => ?_)
  · have gc83 := (if_pos b22).symm.trans gc83
    refine rx_p (L2 := [some (.ref q0), some (.ref q1), some (.ref q2), some (.int a3), some (.int a4), some (.int x1), some (.int x8), some (.int x21), o10, o11, o12, o13, o14, o15, o16, o17]) (S2 := [.int x21]) (pc2 := 81) op72_79 rfl rfl ?_
    refine rx_p (L2 := [some (.ref q0), some (.ref q1), some (.ref q2), some (.int a3), some (.int a4), some (.int x1), some (.int x8), some (.int x21), o10, o11, o12, o13, o14, o15, o16, o17]) (S2 := [.ref q1, .int x21]) (pc2 := 82) op72_81 rfl rfl ?_
    refine rx_gf (v := .int (m18.1 q1 1)) (pc2 := 85) op72_82 hq1 rfl rfl rfl ?_
    refine rx_p (L2 := [some (.ref q0), some (.ref q1), some (.ref q2), some (.int a3), some (.int a4), some (.int x1), some (.int x8), some (.int x21), o10, o11, o12, o13, o14, o15, o16, o17]) (S2 := [.int (x21 + (m18.1 q1 1))]) (pc2 := 86) op72_85 rfl rfl ?_
    refine ry_go (tgt := 91) op72_86 (by decide) (by decide) ?_
    cases gc83
    exact c83 _ _ _ _ _ _ _ _ _ _
  · have gc83 := (if_neg b22).symm.trans gc83
    refine rx_p (L2 := [some (.ref q0), some (.ref q1), some (.ref q2), some (.int a3), some (.int a4), some (.int x1), some (.int x8), some (.int x21), o10, o11, o12, o13, o14, o15, o16, o17]) (S2 := [.int x21]) (pc2 := 91) op72_89 rfl rfl ?_
    cases gc83
    exact c83 _ _ _ _ _ _ _ _ _ _
/-! se_arrange -/
theorem op71_0 : rn_op 71 0 = some (.iload_n 3, 1, 0, 0, 0) := by decide +kernel
theorem op71_1 : rn_op 71 1 = some (.aload_n 0, 1, 0, 0, 0) := by decide +kernel
theorem op71_2 : rn_op 71 2 = some (.getfield 12, 3, 4, 0, 3) := by decide +kernel
theorem op71_5 : rn_op 71 5 = some (.getfield 101, 3, 1, 1, 0) := by decide +kernel
theorem op71_8 : rn_op 71 8 = some (.if_icmp .lt 20, 3, 0, 0, 0) := by decide +kernel
theorem op71_11 : rn_op 71 11 = some (.aload_n 1, 1, 0, 0, 0) := by decide +kernel
theorem op71_12 : rn_op 71 12 = some (.aload_n 0, 1, 0, 0, 0) := by decide +kernel
theorem op71_13 : rn_op 71 13 = some (.getfield 12, 3, 4, 0, 3) := by decide +kernel
theorem op71_16 : rn_op 71 16 = some (.aload_n 0, 1, 0, 0, 0) := by decide +kernel
theorem op71_17 : rn_op 71 17 = some (.getfield 28, 3, 4, 2, 3) := by decide +kernel
theorem op71_20 : rn_op 71 20 = some (.iload 5, 2, 0, 0, 0) := by decide +kernel
theorem op71_22 : rn_op 71 22 = some (.iload 6, 2, 0, 0, 0) := by decide +kernel
theorem op71_24 : rn_op 71 24 = some (.invokevirtual 189, 3, 72, 5, 9) := by decide +kernel
theorem op71_27 : rn_op 71 27 = some (.return_, 1, 0, 0, 0) := by decide +kernel
theorem op71_28 : rn_op 71 28 = some (.iconst 0, 1, 0, 0, 0) := by decide +kernel
theorem op71_29 : rn_op 71 29 = some (.istore 7, 2, 0, 0, 0) := by decide +kernel
theorem op71_31 : rn_op 71 31 = some (.iload 7, 2, 0, 0, 0) := by decide +kernel
theorem op71_33 : rn_op 71 33 = some (.aload_n 0, 1, 0, 0, 0) := by decide +kernel
theorem op71_34 : rn_op 71 34 = some (.getfield 12, 3, 4, 0, 3) := by decide +kernel
theorem op71_37 : rn_op 71 37 = some (.getfield 101, 3, 1, 1, 0) := by decide +kernel
theorem op71_40 : rn_op 71 40 = some (.if_icmp .ge 71, 3, 0, 0, 0) := by decide +kernel
theorem op71_43 : rn_op 71 43 = some (.iload 4, 2, 0, 0, 0) := by decide +kernel
theorem op71_45 : rn_op 71 45 = some (.iload 7, 2, 0, 0, 0) := by decide +kernel
theorem op71_47 : rn_op 71 47 = some (.ishr, 1, 0, 0, 0) := by decide +kernel
theorem op71_48 : rn_op 71 48 = some (.iconst 1, 1, 0, 0, 0) := by decide +kernel
theorem op71_49 : rn_op 71 49 = some (.iand, 1, 0, 0, 0) := by decide +kernel
theorem op71_50 : rn_op 71 50 = some (.ifCond .ne 55, 3, 0, 0, 0) := by decide +kernel
theorem op71_53 : rn_op 71 53 = some (.aload_n 0, 1, 0, 0, 0) := by decide +kernel
theorem op71_54 : rn_op 71 54 = some (.getfield 12, 3, 4, 0, 3) := by decide +kernel
theorem op71_57 : rn_op 71 57 = some (.getfield 193, 3, 1, 7, 0) := by decide +kernel
theorem op71_60 : rn_op 71 60 = some (.iconst 1, 1, 0, 0, 0) := by decide +kernel
theorem op71_61 : rn_op 71 61 = some (.if_icmp .eq 9, 3, 0, 0, 0) := by decide +kernel
theorem op71_64 : rn_op 71 64 = some (.iload 7, 2, 0, 0, 0) := by decide +kernel
theorem op71_66 : rn_op 71 66 = some (.iload_n 3, 1, 0, 0, 0) := by decide +kernel
theorem op71_67 : rn_op 71 67 = some (.if_icmp .ne 38, 3, 0, 0, 0) := by decide +kernel
theorem op71_70 : rn_op 71 70 = some (.aload_n 0, 1, 0, 0, 0) := by decide +kernel
theorem op71_71 : rn_op 71 71 = some (.aload_n 1, 1, 0, 0, 0) := by decide +kernel
theorem op71_72 : rn_op 71 72 = some (.iload_n 2, 1, 0, 0, 0) := by decide +kernel
theorem op71_73 : rn_op 71 73 = some (.iload_n 3, 1, 0, 0, 0) := by decide +kernel
theorem op71_74 : rn_op 71 74 = some (.iconst 1, 1, 0, 0, 0) := by decide +kernel
theorem op71_75 : rn_op 71 75 = some (.iadd, 1, 0, 0, 0) := by decide +kernel
theorem op71_76 : rn_op 71 76 = some (.iload 4, 2, 0, 0, 0) := by decide +kernel
theorem op71_78 : rn_op 71 78 = some (.iconst 1, 1, 0, 0, 0) := by decide +kernel
theorem op71_79 : rn_op 71 79 = some (.iload 7, 2, 0, 0, 0) := by decide +kernel
theorem op71_81 : rn_op 71 81 = some (.ishl, 1, 0, 0, 0) := by decide +kernel
theorem op71_82 : rn_op 71 82 = some (.ior, 1, 0, 0, 0) := by decide +kernel
theorem op71_83 : rn_op 71 83 = some (.iload 5, 2, 0, 0, 0) := by decide +kernel
theorem op71_85 : rn_op 71 85 = some (.iconst 4, 1, 0, 0, 0) := by decide +kernel
theorem op71_86 : rn_op 71 86 = some (.ishl, 1, 0, 0, 0) := by decide +kernel
theorem op71_87 : rn_op 71 87 = some (.aload_n 0, 1, 0, 0, 0) := by decide +kernel
theorem op71_88 : rn_op 71 88 = some (.getfield 21, 3, 4, 1, 3) := by decide +kernel
theorem op71_91 : rn_op 71 91 = some (.getfield 120, 3, 7, 3, 3) := by decide +kernel
theorem op71_94 : rn_op 71 94 = some (.iload_n 2, 1, 0, 0, 0) := by decide +kernel
theorem op71_95 : rn_op 71 95 = some (.iload 7, 2, 0, 0, 0) := by decide +kernel
theorem op71_97 : rn_op 71 97 = some (.iadd, 1, 0, 0, 0) := by decide +kernel
theorem op71_98 : rn_op 71 98 = some (.iaload, 1, 0, 0, 0) := by decide +kernel
theorem op71_99 : rn_op 71 99 = some (.ior, 1, 0, 0, 0) := by decide +kernel
theorem op71_100 : rn_op 71 100 = some (.iload 6, 2, 0, 0, 0) := by decide +kernel
theorem op71_102 : rn_op 71 102 = some (.invokevirtual 185, 3, 71, 7, 4) := by decide +kernel
theorem op71_105 : rn_op 71 105 = some (.iinc 7 1, 3, 0, 0, 0) := by decide +kernel
theorem op71_108 : rn_op 71 108 = some (.goto (-77), 3, 0, 0, 0) := by decide +kernel
theorem op71_111 : rn_op 71 111 = some (.return_, 1, 0, 0, 0) := by decide +kernel
def se_arrange_l31 (rec : Nat → Int32 → Int32 → Int32 → Int32 → Int32 → rn_Mem → Option (rn_Mem)) (q1 : Nat) (a2 : Int32) (a3 : Int32) (a4 : Int32) (a5 : Int32) (a6 : Int32) : Nat → Int32 → rn_Mem → Option (rn_Mem)
  | 0, _, _ => none
  | n + 1, a7, m =>
    if a7 < (m.1 52 1) then
      (show Option (rn_Mem) from
        if ((a4 >>> (a7 &&& 31)) &&& 1) = 0 then
          if (m.1 52 7) = 1 then
            if rn_in (a2 + a7) 48 = true then
              (rec q1 a2 (a3 + 1) (a4 ||| ((1 : Int32) <<< (a7 &&& 31))) ((a5 <<< (4 &&& 31)) ||| (m.1 56 (a2 + a7).toNatClampNeg)) a6 m).bind fun m6 =>
              some (m6)
            else none
          else
            if a7 = a3 then
              if rn_in (a2 + a7) 48 = true then
                (rec q1 a2 (a3 + 1) (a4 ||| ((1 : Int32) <<< (a7 &&& 31))) ((a5 <<< (4 &&& 31)) ||| (m.1 56 (a2 + a7).toNatClampNeg)) a6 m).bind fun m10 =>
                some (m10)
              else none
            else
              some (m)
        else
          some (m)).bind fun m12 =>
      (some (a7 + 1)).bind fun (x13 : Int32) =>
      se_arrange_l31 rec q1 a2 a3 a4 a5 a6 n x13 m12
    else
      some m
def se_arrange_1 (rec : Nat → Int32 → Int32 → Int32 → Int32 → Int32 → rn_Mem → Option (rn_Mem)) (n : Nat) (q1 : Nat) (a2 : Int32) (a3 : Int32) (a4 : Int32) (a5 : Int32) (a6 : Int32) (m : rn_Mem) : Option (rn_Mem) :=
  if a3 < (m.1 52 1) then
    (se_arrange_l31 rec q1 a2 a3 a4 a5 a6 n 0 m).bind fun m15 =>
    some m15
  else
    (wa_note n q1 52 57 a5 a6 m).bind fun m25 =>
    some m25
def se_arrange (n : Nat) : Nat → Nat → Int32 → Int32 → Int32 → Int32 → Int32 → rn_Mem → Option (rn_Mem)
  | 0 => fun _ _ _ _ _ _ _ => none
  | k + 1 => se_arrange_1 (se_arrange n k) n
set_option maxHeartbeats 4000000 in
set_option maxRecDepth 20000 in
theorem se_arrange_l31_ok (xs : List Int32) {d : Nat} (hd : 4 ≤ d) {rec : Nat → Int32 → Int32 → Int32 → Int32 → Int32 → rn_Mem → Option (rn_Mem)} (hrec : ∀ {q1 : Nat} {a2 : Int32} {a3 : Int32} {a4 : Int32} {a5 : Int32} {a6 : Int32} {mI mO : rn_Mem} , sA_Ways q1 → rec q1 a2 a3 a4 a5 a6 mI = some mO → rn_R xs d 71 0 (rn_ent 8 [.ref 51, .ref q1, .int a2, .int a3, .int a4, .int a5, .int a6]) [] (rn_SH, mI) none (rn_SH, mO)) {q1 : Nat} {a2 : Int32} {a3 : Int32} {a4 : Int32} {a5 : Int32} {a6 : Int32} {r : Option Value} {τ : rn_H} {out : rn_Mem} (hr : ∀ (mO : rn_Mem), out = mO → ∀ (o0 o1 o2 o3 o4 o5 o6 o7 : Option Value), rn_R xs (d + 1) 71 111 [o0, o1, o2, o3, o4, o5, o6, o7] [] (rn_SH, mO) r τ) : ∀ (n : Nat) (a7 : Int32) (m : rn_Mem), sA_Ways q1 → se_arrange_l31 rec q1 a2 a3 a4 a5 a6 n a7 m = some out → rn_R xs (d + 1) 71 31 [some (.ref 51), some (.ref q1), some (.int a2), some (.int a3), some (.int a4), some (.int a5), some (.int a6), some (.int a7)] [] (rn_SH, m) r τ := by
  intro n
  induction n with
  | zero =>
    intro _ _ _ h
    cases h
  | succ n ih =>
    intro a7 m hq1 h
    unfold se_arrange_l31 at h
    try dsimp only at h
    refine rx_p (L2 := [some (.ref 51), some (.ref q1), some (.int a2), some (.int a3), some (.int a4), some (.int a5), some (.int a6), some (.int a7)]) (S2 := [.int a7]) (pc2 := 33) op71_31 rfl rfl ?_
    refine rx_p (L2 := [some (.ref 51), some (.ref q1), some (.int a2), some (.int a3), some (.int a4), some (.int a5), some (.int a6), some (.int a7)]) (S2 := [.ref 51, .int a7]) (pc2 := 34) op71_33 rfl rfl ?_
    refine rx_gf (v := .ref 52) (pc2 := 37) op71_34 sp_51 rfl rfl rfl ?_
    refine rx_gf (v := .int (m.1 52 1)) (pc2 := 40) op71_37 sp_52 rfl rfl rfl ?_
    refine ry_ic_ge (tgt := 111) (pc2 := 43) op71_40 (by decide) (by decide) rfl (fun b2 => ?_) (fun b2 => ?_)
    · have h := (if_pos b2).symm.trans h
      refine rx_p (L2 := [some (.ref 51), some (.ref q1), some (.int a2), some (.int a3), some (.int a4), some (.int a5), some (.int a6), some (.int a7)]) (S2 := [.int a4]) (pc2 := 45) op71_43 rfl rfl ?_
      refine rx_p (L2 := [some (.ref 51), some (.ref q1), some (.int a2), some (.int a3), some (.int a4), some (.int a5), some (.int a6), some (.int a7)]) (S2 := [.int a7, .int a4]) (pc2 := 47) op71_45 rfl rfl ?_
      refine rx_p (L2 := [some (.ref 51), some (.ref q1), some (.int a2), some (.int a3), some (.int a4), some (.int a5), some (.int a6), some (.int a7)]) (S2 := [.int (a4 >>> (a7 &&& 31))]) (pc2 := 48) op71_47 rfl rfl ?_
      refine rx_ic (v := 1) (pc2 := 49) op71_48 (by decide) rfl ?_
      refine rx_p (L2 := [some (.ref 51), some (.ref q1), some (.int a2), some (.int a3), some (.int a4), some (.int a5), some (.int a6), some (.int a7)]) (S2 := [.int ((a4 >>> (a7 &&& 31)) &&& 1)]) (pc2 := 50) op71_49 rfl rfl ?_
      obtain ⟨m12, gc14, h⟩ := rq_bind h
      try dsimp only at h
      have c14 : ∀ (_ : Unit), rn_R xs (d + 1) 71 105 [some (.ref 51), some (.ref q1), some (.int a2), some (.int a3), some (.int a4), some (.int a5), some (.int a6), some (.int a7)] [] (rn_SH, m12) r τ := by
        intro _
        obtain ⟨x13, ex13, h⟩ := rq_bv h
        refine rx_inc (w := 1) (v := x13) (L2 := [some (.ref 51), some (.ref q1), some (.int a2), some (.int a3), some (.int a4), some (.int a5), some (.int a6), some (.int x13)]) (pc2 := 108) op71_105 rfl (by decide) ex13 rfl rfl ?_
        refine ry_go (tgt := 31) op71_108 (by decide) (by decide) ?_
        exact ih _ _ hq1 h
      refine ry_if_ne (tgt := 105) (pc2 := 53) op71_50 (by decide) (by decide) rfl (fun b3 => ?_) (fun b3 => ?_)
      · have gc14 := (if_pos b3).symm.trans gc14
        refine rx_p (L2 := [some (.ref 51), some (.ref q1), some (.int a2), some (.int a3), some (.int a4), some (.int a5), some (.int a6), some (.int a7)]) (S2 := [.ref 51]) (pc2 := 54) op71_53 rfl rfl ?_
        refine rx_gf (v := .ref 52) (pc2 := 57) op71_54 sp_51 rfl rfl rfl ?_
        refine rx_gf (v := .int (m.1 52 7)) (pc2 := 60) op71_57 sp_52 rfl rfl rfl ?_
        refine rx_ic (v := 1) (pc2 := 61) op71_60 (by decide) rfl ?_
        refine ry_ic_eq (tgt := 70) (pc2 := 64) op71_61 (by decide) (by decide) rfl (fun b4 => ?_) (fun b4 => ?_)
        · have gc14 := (if_pos b4).symm.trans gc14
          refine rx_p (L2 := [some (.ref 51), some (.ref q1), some (.int a2), some (.int a3), some (.int a4), some (.int a5), some (.int a6), some (.int a7)]) (S2 := [.ref 51]) (pc2 := 71) op71_70 rfl rfl ?_
          refine rx_p (L2 := [some (.ref 51), some (.ref q1), some (.int a2), some (.int a3), some (.int a4), some (.int a5), some (.int a6), some (.int a7)]) (S2 := [.ref q1, .ref 51]) (pc2 := 72) op71_71 rfl rfl ?_
          refine rx_p (L2 := [some (.ref 51), some (.ref q1), some (.int a2), some (.int a3), some (.int a4), some (.int a5), some (.int a6), some (.int a7)]) (S2 := [.int a2, .ref q1, .ref 51]) (pc2 := 73) op71_72 rfl rfl ?_
          refine rx_p (L2 := [some (.ref 51), some (.ref q1), some (.int a2), some (.int a3), some (.int a4), some (.int a5), some (.int a6), some (.int a7)]) (S2 := [.int a3, .int a2, .ref q1, .ref 51]) (pc2 := 74) op71_73 rfl rfl ?_
          refine rx_ic (v := 1) (pc2 := 75) op71_74 (by decide) rfl ?_
          refine rx_p (L2 := [some (.ref 51), some (.ref q1), some (.int a2), some (.int a3), some (.int a4), some (.int a5), some (.int a6), some (.int a7)]) (S2 := [.int (a3 + 1), .int a2, .ref q1, .ref 51]) (pc2 := 76) op71_75 rfl rfl ?_
          refine rx_p (L2 := [some (.ref 51), some (.ref q1), some (.int a2), some (.int a3), some (.int a4), some (.int a5), some (.int a6), some (.int a7)]) (S2 := [.int a4, .int (a3 + 1), .int a2, .ref q1, .ref 51]) (pc2 := 78) op71_76 rfl rfl ?_
          refine rx_ic (v := 1) (pc2 := 79) op71_78 (by decide) rfl ?_
          refine rx_p (L2 := [some (.ref 51), some (.ref q1), some (.int a2), some (.int a3), some (.int a4), some (.int a5), some (.int a6), some (.int a7)]) (S2 := [.int a7, .int 1, .int a4, .int (a3 + 1), .int a2, .ref q1, .ref 51]) (pc2 := 81) op71_79 rfl rfl ?_
          refine rx_p (L2 := [some (.ref 51), some (.ref q1), some (.int a2), some (.int a3), some (.int a4), some (.int a5), some (.int a6), some (.int a7)]) (S2 := [.int ((1 : Int32) <<< (a7 &&& 31)), .int a4, .int (a3 + 1), .int a2, .ref q1, .ref 51]) (pc2 := 82) op71_81 rfl rfl ?_
          refine rx_p (L2 := [some (.ref 51), some (.ref q1), some (.int a2), some (.int a3), some (.int a4), some (.int a5), some (.int a6), some (.int a7)]) (S2 := [.int (a4 ||| ((1 : Int32) <<< (a7 &&& 31))), .int (a3 + 1), .int a2, .ref q1, .ref 51]) (pc2 := 83) op71_82 rfl rfl ?_
          refine rx_p (L2 := [some (.ref 51), some (.ref q1), some (.int a2), some (.int a3), some (.int a4), some (.int a5), some (.int a6), some (.int a7)]) (S2 := [.int a5, .int (a4 ||| ((1 : Int32) <<< (a7 &&& 31))), .int (a3 + 1), .int a2, .ref q1, .ref 51]) (pc2 := 85) op71_83 rfl rfl ?_
          refine rx_ic (v := 4) (pc2 := 86) op71_85 (by decide) rfl ?_
          refine rx_p (L2 := [some (.ref 51), some (.ref q1), some (.int a2), some (.int a3), some (.int a4), some (.int a5), some (.int a6), some (.int a7)]) (S2 := [.int (a5 <<< (4 &&& 31)), .int (a4 ||| ((1 : Int32) <<< (a7 &&& 31))), .int (a3 + 1), .int a2, .ref q1, .ref 51]) (pc2 := 87) op71_86 rfl rfl ?_
          refine rx_p (L2 := [some (.ref 51), some (.ref q1), some (.int a2), some (.int a3), some (.int a4), some (.int a5), some (.int a6), some (.int a7)]) (S2 := [.ref 51, .int (a5 <<< (4 &&& 31)), .int (a4 ||| ((1 : Int32) <<< (a7 &&& 31))), .int (a3 + 1), .int a2, .ref q1, .ref 51]) (pc2 := 88) op71_87 rfl rfl ?_
          refine rx_gf (v := .ref 53) (pc2 := 91) op71_88 sp_51 rfl rfl rfl ?_
          refine rx_gf (v := .ref 56) (pc2 := 94) op71_91 sp_53 rfl rfl rfl ?_
          refine rx_p (L2 := [some (.ref 51), some (.ref q1), some (.int a2), some (.int a3), some (.int a4), some (.int a5), some (.int a6), some (.int a7)]) (S2 := [.int a2, .ref 56, .int (a5 <<< (4 &&& 31)), .int (a4 ||| ((1 : Int32) <<< (a7 &&& 31))), .int (a3 + 1), .int a2, .ref q1, .ref 51]) (pc2 := 95) op71_94 rfl rfl ?_
          refine rx_p (L2 := [some (.ref 51), some (.ref q1), some (.int a2), some (.int a3), some (.int a4), some (.int a5), some (.int a6), some (.int a7)]) (S2 := [.int a7, .int a2, .ref 56, .int (a5 <<< (4 &&& 31)), .int (a4 ||| ((1 : Int32) <<< (a7 &&& 31))), .int (a3 + 1), .int a2, .ref q1, .ref 51]) (pc2 := 97) op71_95 rfl rfl ?_
          refine rx_p (L2 := [some (.ref 51), some (.ref q1), some (.int a2), some (.int a3), some (.int a4), some (.int a5), some (.int a6), some (.int a7)]) (S2 := [.int (a2 + a7), .ref 56, .int (a5 <<< (4 &&& 31)), .int (a4 ||| ((1 : Int32) <<< (a7 &&& 31))), .int (a3 + 1), .int a2, .ref q1, .ref 51]) (pc2 := 98) op71_97 rfl rfl ?_
          obtain ⟨k5, gc14⟩ := rq_chk gc14
          refine rx_ia (pc2 := 99) op71_98 (rn_shlt sp_56) sp_56 k5 rfl rfl ?_
          refine rx_p (L2 := [some (.ref 51), some (.ref q1), some (.int a2), some (.int a3), some (.int a4), some (.int a5), some (.int a6), some (.int a7)]) (S2 := [.int ((a5 <<< (4 &&& 31)) ||| (m.1 56 (a2 + a7).toNatClampNeg)), .int (a4 ||| ((1 : Int32) <<< (a7 &&& 31))), .int (a3 + 1), .int a2, .ref q1, .ref 51]) (pc2 := 100) op71_99 rfl rfl ?_
          refine rx_p (L2 := [some (.ref 51), some (.ref q1), some (.int a2), some (.int a3), some (.int a4), some (.int a5), some (.int a6), some (.int a7)]) (S2 := [.int a6, .int ((a5 <<< (4 &&& 31)) ||| (m.1 56 (a2 + a7).toNatClampNeg)), .int (a4 ||| ((1 : Int32) <<< (a7 &&& 31))), .int (a3 + 1), .int a2, .ref q1, .ref 51]) (pc2 := 102) op71_100 rfl rfl ?_
          obtain ⟨m6, f7, gc14⟩ := rq_bind gc14
          try dsimp only at gc14
          refine ry_iv (p := 51) (vs := [.ref q1, .int a2, .int (a3 + 1), .int (a4 ||| ((1 : Int32) <<< (a7 &&& 31))), .int ((a5 <<< (4 &&& 31)) ||| (m.1 56 (a2 + a7).toNatClampNeg)), .int a6]) (T := []) (pc2 := 105) op71_102 ms_71 (by decide) rfl rfl (Nat.le_of_ble_eq_true rfl) (Nat.le_of_ble_eq_true rfl) sp_51 (hrec hq1 f7) rfl ?_
          show rn_R _ _ _ _ _ [] _ _ _
          cases gc14
          exact c14 ()
        · have gc14 := (if_neg b4).symm.trans gc14
          refine rx_p (L2 := [some (.ref 51), some (.ref q1), some (.int a2), some (.int a3), some (.int a4), some (.int a5), some (.int a6), some (.int a7)]) (S2 := [.int a7]) (pc2 := 66) op71_64 rfl rfl ?_
          refine rx_p (L2 := [some (.ref 51), some (.ref q1), some (.int a2), some (.int a3), some (.int a4), some (.int a5), some (.int a6), some (.int a7)]) (S2 := [.int a3, .int a7]) (pc2 := 67) op71_66 rfl rfl ?_
          refine ry_ic_ne (tgt := 105) (pc2 := 70) op71_67 (by decide) (by decide) rfl (fun b8 => ?_) (fun b8 => ?_)
          · have gc14 := (if_pos b8).symm.trans gc14
            refine rx_p (L2 := [some (.ref 51), some (.ref q1), some (.int a2), some (.int a3), some (.int a4), some (.int a5), some (.int a6), some (.int a7)]) (S2 := [.ref 51]) (pc2 := 71) op71_70 rfl rfl ?_
            refine rx_p (L2 := [some (.ref 51), some (.ref q1), some (.int a2), some (.int a3), some (.int a4), some (.int a5), some (.int a6), some (.int a7)]) (S2 := [.ref q1, .ref 51]) (pc2 := 72) op71_71 rfl rfl ?_
            refine rx_p (L2 := [some (.ref 51), some (.ref q1), some (.int a2), some (.int a3), some (.int a4), some (.int a5), some (.int a6), some (.int a7)]) (S2 := [.int a2, .ref q1, .ref 51]) (pc2 := 73) op71_72 rfl rfl ?_
            refine rx_p (L2 := [some (.ref 51), some (.ref q1), some (.int a2), some (.int a3), some (.int a4), some (.int a5), some (.int a6), some (.int a7)]) (S2 := [.int a3, .int a2, .ref q1, .ref 51]) (pc2 := 74) op71_73 rfl rfl ?_
            refine rx_ic (v := 1) (pc2 := 75) op71_74 (by decide) rfl ?_
            refine rx_p (L2 := [some (.ref 51), some (.ref q1), some (.int a2), some (.int a3), some (.int a4), some (.int a5), some (.int a6), some (.int a7)]) (S2 := [.int (a3 + 1), .int a2, .ref q1, .ref 51]) (pc2 := 76) op71_75 rfl rfl ?_
            refine rx_p (L2 := [some (.ref 51), some (.ref q1), some (.int a2), some (.int a3), some (.int a4), some (.int a5), some (.int a6), some (.int a7)]) (S2 := [.int a4, .int (a3 + 1), .int a2, .ref q1, .ref 51]) (pc2 := 78) op71_76 rfl rfl ?_
            refine rx_ic (v := 1) (pc2 := 79) op71_78 (by decide) rfl ?_
            refine rx_p (L2 := [some (.ref 51), some (.ref q1), some (.int a2), some (.int a3), some (.int a4), some (.int a5), some (.int a6), some (.int a7)]) (S2 := [.int a7, .int 1, .int a4, .int (a3 + 1), .int a2, .ref q1, .ref 51]) (pc2 := 81) op71_79 rfl rfl ?_
            refine rx_p (L2 := [some (.ref 51), some (.ref q1), some (.int a2), some (.int a3), some (.int a4), some (.int a5), some (.int a6), some (.int a7)]) (S2 := [.int ((1 : Int32) <<< (a7 &&& 31)), .int a4, .int (a3 + 1), .int a2, .ref q1, .ref 51]) (pc2 := 82) op71_81 rfl rfl ?_
            refine rx_p (L2 := [some (.ref 51), some (.ref q1), some (.int a2), some (.int a3), some (.int a4), some (.int a5), some (.int a6), some (.int a7)]) (S2 := [.int (a4 ||| ((1 : Int32) <<< (a7 &&& 31))), .int (a3 + 1), .int a2, .ref q1, .ref 51]) (pc2 := 83) op71_82 rfl rfl ?_
            refine rx_p (L2 := [some (.ref 51), some (.ref q1), some (.int a2), some (.int a3), some (.int a4), some (.int a5), some (.int a6), some (.int a7)]) (S2 := [.int a5, .int (a4 ||| ((1 : Int32) <<< (a7 &&& 31))), .int (a3 + 1), .int a2, .ref q1, .ref 51]) (pc2 := 85) op71_83 rfl rfl ?_
            refine rx_ic (v := 4) (pc2 := 86) op71_85 (by decide) rfl ?_
            refine rx_p (L2 := [some (.ref 51), some (.ref q1), some (.int a2), some (.int a3), some (.int a4), some (.int a5), some (.int a6), some (.int a7)]) (S2 := [.int (a5 <<< (4 &&& 31)), .int (a4 ||| ((1 : Int32) <<< (a7 &&& 31))), .int (a3 + 1), .int a2, .ref q1, .ref 51]) (pc2 := 87) op71_86 rfl rfl ?_
            refine rx_p (L2 := [some (.ref 51), some (.ref q1), some (.int a2), some (.int a3), some (.int a4), some (.int a5), some (.int a6), some (.int a7)]) (S2 := [.ref 51, .int (a5 <<< (4 &&& 31)), .int (a4 ||| ((1 : Int32) <<< (a7 &&& 31))), .int (a3 + 1), .int a2, .ref q1, .ref 51]) (pc2 := 88) op71_87 rfl rfl ?_
            refine rx_gf (v := .ref 53) (pc2 := 91) op71_88 sp_51 rfl rfl rfl ?_
            refine rx_gf (v := .ref 56) (pc2 := 94) op71_91 sp_53 rfl rfl rfl ?_
            refine rx_p (L2 := [some (.ref 51), some (.ref q1), some (.int a2), some (.int a3), some (.int a4), some (.int a5), some (.int a6), some (.int a7)]) (S2 := [.int a2, .ref 56, .int (a5 <<< (4 &&& 31)), .int (a4 ||| ((1 : Int32) <<< (a7 &&& 31))), .int (a3 + 1), .int a2, .ref q1, .ref 51]) (pc2 := 95) op71_94 rfl rfl ?_
            refine rx_p (L2 := [some (.ref 51), some (.ref q1), some (.int a2), some (.int a3), some (.int a4), some (.int a5), some (.int a6), some (.int a7)]) (S2 := [.int a7, .int a2, .ref 56, .int (a5 <<< (4 &&& 31)), .int (a4 ||| ((1 : Int32) <<< (a7 &&& 31))), .int (a3 + 1), .int a2, .ref q1, .ref 51]) (pc2 := 97) op71_95 rfl rfl ?_
            refine rx_p (L2 := [some (.ref 51), some (.ref q1), some (.int a2), some (.int a3), some (.int a4), some (.int a5), some (.int a6), some (.int a7)]) (S2 := [.int (a2 + a7), .ref 56, .int (a5 <<< (4 &&& 31)), .int (a4 ||| ((1 : Int32) <<< (a7 &&& 31))), .int (a3 + 1), .int a2, .ref q1, .ref 51]) (pc2 := 98) op71_97 rfl rfl ?_
            obtain ⟨k9, gc14⟩ := rq_chk gc14
            refine rx_ia (pc2 := 99) op71_98 (rn_shlt sp_56) sp_56 k9 rfl rfl ?_
            refine rx_p (L2 := [some (.ref 51), some (.ref q1), some (.int a2), some (.int a3), some (.int a4), some (.int a5), some (.int a6), some (.int a7)]) (S2 := [.int ((a5 <<< (4 &&& 31)) ||| (m.1 56 (a2 + a7).toNatClampNeg)), .int (a4 ||| ((1 : Int32) <<< (a7 &&& 31))), .int (a3 + 1), .int a2, .ref q1, .ref 51]) (pc2 := 100) op71_99 rfl rfl ?_
            refine rx_p (L2 := [some (.ref 51), some (.ref q1), some (.int a2), some (.int a3), some (.int a4), some (.int a5), some (.int a6), some (.int a7)]) (S2 := [.int a6, .int ((a5 <<< (4 &&& 31)) ||| (m.1 56 (a2 + a7).toNatClampNeg)), .int (a4 ||| ((1 : Int32) <<< (a7 &&& 31))), .int (a3 + 1), .int a2, .ref q1, .ref 51]) (pc2 := 102) op71_100 rfl rfl ?_
            obtain ⟨m10, f11, gc14⟩ := rq_bind gc14
            try dsimp only at gc14
            refine ry_iv (p := 51) (vs := [.ref q1, .int a2, .int (a3 + 1), .int (a4 ||| ((1 : Int32) <<< (a7 &&& 31))), .int ((a5 <<< (4 &&& 31)) ||| (m.1 56 (a2 + a7).toNatClampNeg)), .int a6]) (T := []) (pc2 := 105) op71_102 ms_71 (by decide) rfl rfl (Nat.le_of_ble_eq_true rfl) (Nat.le_of_ble_eq_true rfl) sp_51 (hrec hq1 f11) rfl ?_
            show rn_R _ _ _ _ _ [] _ _ _
            cases gc14
            exact c14 ()
          · have gc14 := (if_neg b8).symm.trans gc14
            cases gc14
            exact c14 ()
      · have gc14 := (if_neg b3).symm.trans gc14
        cases gc14
        exact c14 ()
    · have h := (if_neg b2).symm.trans h
      cases h
      exact hr _ rfl _ _ _ _ _ _ _ _
set_option maxHeartbeats 4000000 in
set_option maxRecDepth 20000 in
theorem se_arrange_1_ok (xs : List Int32) {d : Nat} (hd : 4 ≤ d) {rec : Nat → Int32 → Int32 → Int32 → Int32 → Int32 → rn_Mem → Option (rn_Mem)} (hrec : ∀ {q1 : Nat} {a2 : Int32} {a3 : Int32} {a4 : Int32} {a5 : Int32} {a6 : Int32} {mI mO : rn_Mem} , sA_Ways q1 → rec q1 a2 a3 a4 a5 a6 mI = some mO → rn_R xs d 71 0 (rn_ent 8 [.ref 51, .ref q1, .int a2, .int a3, .int a4, .int a5, .int a6]) [] (rn_SH, mI) none (rn_SH, mO)) {n : Nat} {q1 : Nat} {a2 : Int32} {a3 : Int32} {a4 : Int32} {a5 : Int32} {a6 : Int32} {m mO : rn_Mem} (hq1 : sA_Ways q1) (h : se_arrange_1 rec n q1 a2 a3 a4 a5 a6 m = some mO) : rn_R xs (d + 1) 71 0 (rn_ent 8 [.ref 51, .ref q1, .int a2, .int a3, .int a4, .int a5, .int a6]) [] (rn_SH, m) none (rn_SH, mO) := by
  unfold se_arrange_1 at h
  show rn_R xs (d + 1) 71 0 [some (.ref 51), some (.ref q1), some (.int a2), some (.int a3), some (.int a4), some (.int a5), some (.int a6), none] [] (rn_SH, m) none (rn_SH, mO)
  refine rx_p (L2 := [some (.ref 51), some (.ref q1), some (.int a2), some (.int a3), some (.int a4), some (.int a5), some (.int a6), none]) (S2 := [.int a3]) (pc2 := 1) op71_0 rfl rfl ?_
  refine rx_p (L2 := [some (.ref 51), some (.ref q1), some (.int a2), some (.int a3), some (.int a4), some (.int a5), some (.int a6), none]) (S2 := [.ref 51, .int a3]) (pc2 := 2) op71_1 rfl rfl ?_
  refine rx_gf (v := .ref 52) (pc2 := 5) op71_2 sp_51 rfl rfl rfl ?_
  refine rx_gf (v := .int (m.1 52 1)) (pc2 := 8) op71_5 sp_52 rfl rfl rfl ?_
  refine ry_ic_lt (tgt := 28) (pc2 := 11) op71_8 (by decide) (by decide) rfl (fun b1 => ?_) (fun b1 => ?_)
  · have h := (if_pos b1).symm.trans h
    refine rx_ic (v := 0) (pc2 := 29) op71_28 (by decide) rfl ?_
    refine rx_s (L2 := [some (.ref 51), some (.ref q1), some (.int a2), some (.int a3), some (.int a4), some (.int a5), some (.int a6), some (.int 0)]) (pc2 := 31) op71_29 rfl rfl rfl ?_
    obtain ⟨m15, f24, h⟩ := rq_bind h
    refine se_arrange_l31_ok xs hd hrec (fun m0 eq => ?_) _ _ _ hq1 f24
    subst eq
    try dsimp only at h
    intro o16 o17 o18 o19 o20 o21 o22 o23
    obtain rfl := Option.some.inj h
    exact ry_rv op71_111 ms_71 rfl
  · have h := (if_neg b1).symm.trans h
    refine rx_p (L2 := [some (.ref 51), some (.ref q1), some (.int a2), some (.int a3), some (.int a4), some (.int a5), some (.int a6), none]) (S2 := [.ref q1]) (pc2 := 12) op71_11 rfl rfl ?_
    refine rx_p (L2 := [some (.ref 51), some (.ref q1), some (.int a2), some (.int a3), some (.int a4), some (.int a5), some (.int a6), none]) (S2 := [.ref 51, .ref q1]) (pc2 := 13) op71_12 rfl rfl ?_
    refine rx_gf (v := .ref 52) (pc2 := 16) op71_13 sp_51 rfl rfl rfl ?_
    refine rx_p (L2 := [some (.ref 51), some (.ref q1), some (.int a2), some (.int a3), some (.int a4), some (.int a5), some (.int a6), none]) (S2 := [.ref 51, .ref 52, .ref q1]) (pc2 := 17) op71_16 rfl rfl ?_
    refine rx_gf (v := .ref 57) (pc2 := 20) op71_17 sp_51 rfl rfl rfl ?_
    refine rx_p (L2 := [some (.ref 51), some (.ref q1), some (.int a2), some (.int a3), some (.int a4), some (.int a5), some (.int a6), none]) (S2 := [.int a5, .ref 57, .ref 52, .ref q1]) (pc2 := 22) op71_20 rfl rfl ?_
    refine rx_p (L2 := [some (.ref 51), some (.ref q1), some (.int a2), some (.int a3), some (.int a4), some (.int a5), some (.int a6), none]) (S2 := [.int a6, .int a5, .ref 57, .ref 52, .ref q1]) (pc2 := 24) op71_22 rfl rfl ?_
    obtain ⟨m25, f26, h⟩ := rq_bind h
    try dsimp only at h
    refine ry_iv (p := q1) (vs := [.ref 52, .ref 57, .int a5, .int a6]) (T := []) (pc2 := 27) op71_24 ms_72 (by decide) rfl rfl (Nat.le_of_ble_eq_true rfl) (Nat.le_of_ble_eq_true rfl) (hq1.1) (wa_note_ok xs (by omega) hq1 sa_52 sa_57 f26) rfl ?_
    show rn_R _ _ _ _ _ [] _ _ _
    obtain rfl := Option.some.inj h
    exact ry_rv op71_27 ms_71 rfl
set_option maxHeartbeats 4000000 in
set_option maxRecDepth 20000 in
theorem se_arrange_ok (xs : List Int32) : ∀ (k : Nat) {d : Nat} (hd : 1 * k + 4 ≤ d) {n : Nat} {q1 : Nat} {a2 : Int32} {a3 : Int32} {a4 : Int32} {a5 : Int32} {a6 : Int32} {m mO : rn_Mem} (hq1 : sA_Ways q1) (h : se_arrange n k q1 a2 a3 a4 a5 a6 m = some mO), rn_R xs d 71 0 (rn_ent 8 [.ref 51, .ref q1, .int a2, .int a3, .int a4, .int a5, .int a6]) [] (rn_SH, m) none (rn_SH, mO)
  | 0, d, hd, n, q1, a2, a3, a4, a5, a6, m, mO, hq1, h => by cases h
  | k + 1, d, hd, n, q1, a2, a3, a4, a5, a6, m, mO, hq1, h => by
    obtain ⟨d, rfl⟩ : ∃ e, d = e + 1 := ⟨d - 1, by omega⟩
    exact se_arrange_1_ok xs (by omega) (fun hq1 h => se_arrange_ok xs k (by omega) hq1 h) hq1 h
/-! se_gather -/
theorem op68_0 : rn_op 68 0 = some (.aload_n 0, 1, 0, 0, 0) := by decide +kernel
theorem op68_1 : rn_op 68 1 = some (.getfield 12, 3, 4, 0, 3) := by decide +kernel
theorem op68_4 : rn_op 68 4 = some (.getfield 166, 3, 1, 5, 0) := by decide +kernel
theorem op68_7 : rn_op 68 7 = some (.iconst 1, 1, 0, 0, 0) := by decide +kernel
theorem op68_8 : rn_op 68 8 = some (.if_icmp .ne 13, 3, 0, 0, 0) := by decide +kernel
theorem op68_11 : rn_op 68 11 = some (.aload_n 0, 1, 0, 0, 0) := by decide +kernel
theorem op68_12 : rn_op 68 12 = some (.getfield 28, 3, 4, 2, 3) := by decide +kernel
theorem op68_15 : rn_op 68 15 = some (.invokevirtual 169, 3, 69, 1, 0) := by decide +kernel
theorem op68_18 : rn_op 68 18 = some (.goto 5, 3, 0, 0, 0) := by decide +kernel
theorem op68_21 : rn_op 68 21 = some (.ldc 172, 2, 65535, 0, 0) := by decide +kernel
theorem op68_23 : rn_op 68 23 = some (.istore_n 1, 1, 0, 0, 0) := by decide +kernel
theorem op68_24 : rn_op 68 24 = some (.iconst 0, 1, 0, 0, 0) := by decide +kernel
theorem op68_25 : rn_op 68 25 = some (.istore_n 2, 1, 0, 0, 0) := by decide +kernel
theorem op68_26 : rn_op 68 26 = some (.aload_n 0, 1, 0, 0, 0) := by decide +kernel
theorem op68_27 : rn_op 68 27 = some (.iconst 0, 1, 0, 0, 0) := by decide +kernel
theorem op68_28 : rn_op 68 28 = some (.putfield 173, 3, 4, 9, 0) := by decide +kernel
theorem op68_31 : rn_op 68 31 = some (.iconst 0, 1, 0, 0, 0) := by decide +kernel
theorem op68_32 : rn_op 68 32 = some (.istore_n 3, 1, 0, 0, 0) := by decide +kernel
theorem op68_33 : rn_op 68 33 = some (.iload_n 3, 1, 0, 0, 0) := by decide +kernel
theorem op68_34 : rn_op 68 34 = some (.aload_n 0, 1, 0, 0, 0) := by decide +kernel
theorem op68_35 : rn_op 68 35 = some (.getfield 12, 3, 4, 0, 3) := by decide +kernel
theorem op68_38 : rn_op 68 38 = some (.getfield 101, 3, 1, 1, 0) := by decide +kernel
theorem op68_41 : rn_op 68 41 = some (.if_icmp .ge 151, 3, 0, 0, 0) := by decide +kernel
theorem op68_44 : rn_op 68 44 = some (.aload_n 0, 1, 0, 0, 0) := by decide +kernel
theorem op68_45 : rn_op 68 45 = some (.getfield 38, 3, 4, 4, 3) := by decide +kernel
theorem op68_48 : rn_op 68 48 = some (.iload_n 3, 1, 0, 0, 0) := by decide +kernel
theorem op68_49 : rn_op 68 49 = some (.iload_n 2, 1, 0, 0, 0) := by decide +kernel
theorem op68_50 : rn_op 68 50 = some (.iastore, 1, 0, 0, 0) := by decide +kernel
theorem op68_51 : rn_op 68 51 = some (.aload_n 0, 1, 0, 0, 0) := by decide +kernel
theorem op68_52 : rn_op 68 52 = some (.getfield 42, 3, 4, 5, 3) := by decide +kernel
theorem op68_55 : rn_op 68 55 = some (.iload_n 3, 1, 0, 0, 0) := by decide +kernel
theorem op68_56 : rn_op 68 56 = some (.aload_n 0, 1, 0, 0, 0) := by decide +kernel
theorem op68_57 : rn_op 68 57 = some (.getfield 21, 3, 4, 1, 3) := by decide +kernel
theorem op68_60 : rn_op 68 60 = some (.getfield 176, 3, 7, 2, 3) := by decide +kernel
theorem op68_63 : rn_op 68 63 = some (.iload_n 3, 1, 0, 0, 0) := by decide +kernel
theorem op68_64 : rn_op 68 64 = some (.iaload, 1, 0, 0, 0) := by decide +kernel
theorem op68_65 : rn_op 68 65 = some (.iastore, 1, 0, 0, 0) := by decide +kernel
theorem op68_66 : rn_op 68 66 = some (.iconst 0, 1, 0, 0, 0) := by decide +kernel
theorem op68_67 : rn_op 68 67 = some (.istore 4, 2, 0, 0, 0) := by decide +kernel
theorem op68_69 : rn_op 68 69 = some (.iload 4, 2, 0, 0, 0) := by decide +kernel
theorem op68_71 : rn_op 68 71 = some (.aload_n 0, 1, 0, 0, 0) := by decide +kernel
theorem op68_72 : rn_op 68 72 = some (.getfield 21, 3, 4, 1, 3) := by decide +kernel
theorem op68_75 : rn_op 68 75 = some (.getfield 176, 3, 7, 2, 3) := by decide +kernel
theorem op68_78 : rn_op 68 78 = some (.iload_n 3, 1, 0, 0, 0) := by decide +kernel
theorem op68_79 : rn_op 68 79 = some (.iaload, 1, 0, 0, 0) := by decide +kernel
theorem op68_80 : rn_op 68 80 = some (.if_icmp .ge 106, 3, 0, 0, 0) := by decide +kernel
theorem op68_83 : rn_op 68 83 = some (.iload_n 2, 1, 0, 0, 0) := by decide +kernel
theorem op68_84 : rn_op 68 84 = some (.iconst 4, 1, 0, 0, 0) := by decide +kernel
theorem op68_85 : rn_op 68 85 = some (.if_icmp .ge 101, 3, 0, 0, 0) := by decide +kernel
theorem op68_88 : rn_op 68 88 = some (.aload_n 0, 1, 0, 0, 0) := by decide +kernel
theorem op68_89 : rn_op 68 89 = some (.getfield 34, 3, 4, 3, 3) := by decide +kernel
theorem op68_92 : rn_op 68 92 = some (.iload_n 2, 1, 0, 0, 0) := by decide +kernel
theorem op68_93 : rn_op 68 93 = some (.aaload, 1, 0, 0, 0) := by decide +kernel
theorem op68_94 : rn_op 68 94 = some (.astore 5, 2, 0, 0, 0) := by decide +kernel
theorem op68_96 : rn_op 68 96 = some (.aload 5, 2, 0, 0, 0) := by decide +kernel
theorem op68_98 : rn_op 68 98 = some (.iload_n 3, 1, 0, 0, 0) := by decide +kernel
theorem op68_99 : rn_op 68 99 = some (.invokevirtual 179, 3, 70, 2, 9) := by decide +kernel
theorem op68_102 : rn_op 68 102 = some (.iload_n 3, 1, 0, 0, 0) := by decide +kernel
theorem op68_103 : rn_op 68 103 = some (.bipush 12, 2, 0, 0, 0) := by decide +kernel
theorem op68_105 : rn_op 68 105 = some (.imul, 1, 0, 0, 0) := by decide +kernel
theorem op68_106 : rn_op 68 106 = some (.iload 4, 2, 0, 0, 0) := by decide +kernel
theorem op68_108 : rn_op 68 108 = some (.aload_n 0, 1, 0, 0, 0) := by decide +kernel
theorem op68_109 : rn_op 68 109 = some (.getfield 12, 3, 4, 0, 3) := by decide +kernel
theorem op68_112 : rn_op 68 112 = some (.getfield 101, 3, 1, 1, 0) := by decide +kernel
theorem op68_115 : rn_op 68 115 = some (.imul, 1, 0, 0, 0) := by decide +kernel
theorem op68_116 : rn_op 68 116 = some (.iadd, 1, 0, 0, 0) := by decide +kernel
theorem op68_117 : rn_op 68 117 = some (.istore 6, 2, 0, 0, 0) := by decide +kernel
theorem op68_119 : rn_op 68 119 = some (.iconst 0, 1, 0, 0, 0) := by decide +kernel
theorem op68_120 : rn_op 68 120 = some (.istore 7, 2, 0, 0, 0) := by decide +kernel
theorem op68_122 : rn_op 68 122 = some (.iload 7, 2, 0, 0, 0) := by decide +kernel
theorem op68_124 : rn_op 68 124 = some (.aload_n 0, 1, 0, 0, 0) := by decide +kernel
theorem op68_125 : rn_op 68 125 = some (.getfield 12, 3, 4, 0, 3) := by decide +kernel
theorem op68_128 : rn_op 68 128 = some (.getfield 101, 3, 1, 1, 0) := by decide +kernel
theorem op68_131 : rn_op 68 131 = some (.if_icmp .ge 34, 3, 0, 0, 0) := by decide +kernel
theorem op68_134 : rn_op 68 134 = some (.aload 5, 2, 0, 0, 0) := by decide +kernel
theorem op68_136 : rn_op 68 136 = some (.dup, 1, 0, 0, 0) := by decide +kernel
theorem op68_137 : rn_op 68 137 = some (.getfield 183, 3, 9, 1, 0) := by decide +kernel
theorem op68_140 : rn_op 68 140 = some (.iconst 1, 1, 0, 0, 0) := by decide +kernel
theorem op68_141 : rn_op 68 141 = some (.aload_n 0, 1, 0, 0, 0) := by decide +kernel
theorem op68_142 : rn_op 68 142 = some (.getfield 21, 3, 4, 1, 3) := by decide +kernel
theorem op68_145 : rn_op 68 145 = some (.getfield 120, 3, 7, 3, 3) := by decide +kernel
theorem op68_148 : rn_op 68 148 = some (.iload 6, 2, 0, 0, 0) := by decide +kernel
theorem op68_150 : rn_op 68 150 = some (.iload 7, 2, 0, 0, 0) := by decide +kernel
theorem op68_152 : rn_op 68 152 = some (.iadd, 1, 0, 0, 0) := by decide +kernel
theorem op68_153 : rn_op 68 153 = some (.iaload, 1, 0, 0, 0) := by decide +kernel
theorem op68_154 : rn_op 68 154 = some (.ishl, 1, 0, 0, 0) := by decide +kernel
theorem op68_155 : rn_op 68 155 = some (.ior, 1, 0, 0, 0) := by decide +kernel
theorem op68_156 : rn_op 68 156 = some (.putfield 183, 3, 9, 1, 0) := by decide +kernel
theorem op68_159 : rn_op 68 159 = some (.iinc 7 1, 3, 0, 0, 0) := by decide +kernel
theorem op68_162 : rn_op 68 162 = some (.goto (-40), 3, 0, 0, 0) := by decide +kernel
theorem op68_165 : rn_op 68 165 = some (.aload_n 0, 1, 0, 0, 0) := by decide +kernel
theorem op68_166 : rn_op 68 166 = some (.aload 5, 2, 0, 0, 0) := by decide +kernel
theorem op68_168 : rn_op 68 168 = some (.iload 6, 2, 0, 0, 0) := by decide +kernel
theorem op68_170 : rn_op 68 170 = some (.iconst 0, 1, 0, 0, 0) := by decide +kernel
theorem op68_171 : rn_op 68 171 = some (.iconst 0, 1, 0, 0, 0) := by decide +kernel
theorem op68_172 : rn_op 68 172 = some (.iconst 0, 1, 0, 0, 0) := by decide +kernel
theorem op68_173 : rn_op 68 173 = some (.iload_n 1, 1, 0, 0, 0) := by decide +kernel
theorem op68_174 : rn_op 68 174 = some (.invokevirtual 185, 3, 71, 7, 4) := by decide +kernel
theorem op68_177 : rn_op 68 177 = some (.iinc 2 1, 3, 0, 0, 0) := by decide +kernel
theorem op68_180 : rn_op 68 180 = some (.iinc 4 1, 3, 0, 0, 0) := by decide +kernel
theorem op68_183 : rn_op 68 183 = some (.goto (-114), 3, 0, 0, 0) := by decide +kernel
theorem op68_186 : rn_op 68 186 = some (.iinc 3 1, 3, 0, 0, 0) := by decide +kernel
theorem op68_189 : rn_op 68 189 = some (.goto (-156), 3, 0, 0, 0) := by decide +kernel
theorem op68_192 : rn_op 68 192 = some (.return_, 1, 0, 0, 0) := by decide +kernel
def se_gather_l122 (a1 : Int32) (a2 : Int32) (a3 : Int32) (a4 : Int32) (q5 : Nat) (a6 : Int32) : Nat → Int32 → rn_Mem → Option (rn_Mem)
  | 0, _, _ => none
  | n + 1, a7, m =>
    if a7 < (m.1 52 1) then
      if rn_in (a6 + a7) 48 = true then
        (some (rm_i m q5 1 ((m.1 q5 1) ||| ((1 : Int32) <<< ((m.1 56 (a6 + a7).toNatClampNeg) &&& 31))))).bind fun (m30 : rn_Mem) =>
        (some (a7 + 1)).bind fun (x31 : Int32) =>
        se_gather_l122 a1 a2 a3 a4 q5 a6 n x31 m30
      else none
    else
      some m
def se_gather_l69 (a1 : Int32) (a3 : Int32) : Nat → Int32 → Int32 → rn_Mem → Option (Int32 × rn_Mem)
  | 0, _, _, _ => none
  | n + 1, a2, a4, m =>
    if rn_in a3 4 = true then
      if a4 < (m.1 55 a3.toNatClampNeg) then
        if a2 < 4 then
          if rn_in a2 4 = true then
            (wa_begin n (70 + 8 * a2.toNatClampNeg) a3 m).bind fun m25 =>
            (some ((a3 * 12) + (a4 * (m25.1 52 1)))).bind fun (x27 : Int32) =>
            (se_gather_l122 a1 a2 a3 a4 (70 + 8 * a2.toNatClampNeg) x27 n 0 m25).bind fun m32 =>
            (se_arrange n 16 (70 + 8 * a2.toNatClampNeg) x27 0 0 0 a1 m32).bind fun m34 =>
            (some (a2 + 1)).bind fun (x36 : Int32) =>
            (some (a4 + 1)).bind fun (x37 : Int32) =>
            se_gather_l69 a1 a3 n x36 x37 m34
          else none
        else
          some (a2, m)
      else
        some (a2, m)
    else none
def se_gather_l33 (a1 : Int32) : Nat → Int32 → Int32 → rn_Mem → Option (rn_Mem)
  | 0, _, _, _ => none
  | n + 1, a2, a3, m =>
    if a3 < (m.1 52 1) then
      if rn_in a3 4 = true then
        (some (rm_i m 63 a3.toNatClampNeg a2)).bind fun (m16 : rn_Mem) =>
        if rn_in a3 4 = true then
          if rn_in a3 4 = true then
            (some (rm_i m16 64 a3.toNatClampNeg (m16.1 55 a3.toNatClampNeg))).bind fun (m19 : rn_Mem) =>
            (se_gather_l69 a1 a3 n a2 0 m19).bind fun (x40, m39) =>
            (some (a3 + 1)).bind fun (x45 : Int32) =>
            se_gather_l33 a1 n x40 x45 m39
          else none
        else none
      else none
    else
      some m
def se_gather (n : Nat)  (m : rn_Mem) : Option (rn_Mem) :=
  (show Option (Int32 × rn_Mem) from
    if (m.1 52 5) = 1 then
      (cl_suitsAsked n 57 m).bind fun (r3, m2) =>
      some (r3, m2)
    else
      some (65535, m)).bind fun (x12, m13) =>
  (some (rm_i m13 51 9 0)).bind fun (m14 : rn_Mem) =>
  (se_gather_l33 x12 n 0 0 m14).bind fun m47 =>
  some m47
set_option maxHeartbeats 4000000 in
set_option maxRecDepth 20000 in
theorem se_gather_l122_ok (xs : List Int32) {d : Nat} (hd : 23 ≤ d + 1) {a1 : Int32} {a2 : Int32} {a3 : Int32} {a4 : Int32} {q5 : Nat} {a6 : Int32} {r : Option Value} {τ : rn_H} {out : rn_Mem} (hr : ∀ (mO : rn_Mem), out = mO → ∀ (o7 : Option Value), rn_R xs (d + 1) 68 165 [some (.ref 51), some (.int a1), some (.int a2), some (.int a3), some (.int a4), some (.ref q5), some (.int a6), o7] [] (rn_SH, mO) r τ) : ∀ (n : Nat) (a7 : Int32) (m : rn_Mem), sA_Ways q5 → se_gather_l122 a1 a2 a3 a4 q5 a6 n a7 m = some out → rn_R xs (d + 1) 68 122 [some (.ref 51), some (.int a1), some (.int a2), some (.int a3), some (.int a4), some (.ref q5), some (.int a6), some (.int a7)] [] (rn_SH, m) r τ := by
  intro n
  induction n with
  | zero =>
    intro _ _ _ h
    cases h
  | succ n ih =>
    intro a7 m hq5 h
    unfold se_gather_l122 at h
    try dsimp only at h
    refine rx_p (L2 := [some (.ref 51), some (.int a1), some (.int a2), some (.int a3), some (.int a4), some (.ref q5), some (.int a6), some (.int a7)]) (S2 := [.int a7]) (pc2 := 124) op68_122 rfl rfl ?_
    refine rx_p (L2 := [some (.ref 51), some (.int a1), some (.int a2), some (.int a3), some (.int a4), some (.ref q5), some (.int a6), some (.int a7)]) (S2 := [.ref 51, .int a7]) (pc2 := 125) op68_124 rfl rfl ?_
    refine rx_gf (v := .ref 52) (pc2 := 128) op68_125 sp_51 rfl rfl rfl ?_
    refine rx_gf (v := .int (m.1 52 1)) (pc2 := 131) op68_128 sp_52 rfl rfl rfl ?_
    refine ry_ic_ge (tgt := 165) (pc2 := 134) op68_131 (by decide) (by decide) rfl (fun b28 => ?_) (fun b28 => ?_)
    · have h := (if_pos b28).symm.trans h
      refine rx_p (L2 := [some (.ref 51), some (.int a1), some (.int a2), some (.int a3), some (.int a4), some (.ref q5), some (.int a6), some (.int a7)]) (S2 := [.ref q5]) (pc2 := 136) op68_134 rfl rfl ?_
      refine rx_p (L2 := [some (.ref 51), some (.int a1), some (.int a2), some (.int a3), some (.int a4), some (.ref q5), some (.int a6), some (.int a7)]) (S2 := [.ref q5, .ref q5]) (pc2 := 137) op68_136 rfl rfl ?_
      refine rx_gf (v := .int (m.1 q5 1)) (pc2 := 140) op68_137 (hq5.1) rfl rfl rfl ?_
      refine rx_ic (v := 1) (pc2 := 141) op68_140 (by decide) rfl ?_
      refine rx_p (L2 := [some (.ref 51), some (.int a1), some (.int a2), some (.int a3), some (.int a4), some (.ref q5), some (.int a6), some (.int a7)]) (S2 := [.ref 51, .int 1, .int (m.1 q5 1), .ref q5]) (pc2 := 142) op68_141 rfl rfl ?_
      refine rx_gf (v := .ref 53) (pc2 := 145) op68_142 sp_51 rfl rfl rfl ?_
      refine rx_gf (v := .ref 56) (pc2 := 148) op68_145 sp_53 rfl rfl rfl ?_
      refine rx_p (L2 := [some (.ref 51), some (.int a1), some (.int a2), some (.int a3), some (.int a4), some (.ref q5), some (.int a6), some (.int a7)]) (S2 := [.int a6, .ref 56, .int 1, .int (m.1 q5 1), .ref q5]) (pc2 := 150) op68_148 rfl rfl ?_
      refine rx_p (L2 := [some (.ref 51), some (.int a1), some (.int a2), some (.int a3), some (.int a4), some (.ref q5), some (.int a6), some (.int a7)]) (S2 := [.int a7, .int a6, .ref 56, .int 1, .int (m.1 q5 1), .ref q5]) (pc2 := 152) op68_150 rfl rfl ?_
      refine rx_p (L2 := [some (.ref 51), some (.int a1), some (.int a2), some (.int a3), some (.int a4), some (.ref q5), some (.int a6), some (.int a7)]) (S2 := [.int (a6 + a7), .ref 56, .int 1, .int (m.1 q5 1), .ref q5]) (pc2 := 153) op68_152 rfl rfl ?_
      obtain ⟨k29, h⟩ := rq_chk h
      refine rx_ia (pc2 := 154) op68_153 (rn_shlt sp_56) sp_56 k29 rfl rfl ?_
      refine rx_p (L2 := [some (.ref 51), some (.int a1), some (.int a2), some (.int a3), some (.int a4), some (.ref q5), some (.int a6), some (.int a7)]) (S2 := [.int ((1 : Int32) <<< ((m.1 56 (a6 + a7).toNatClampNeg) &&& 31)), .int (m.1 q5 1), .ref q5]) (pc2 := 155) op68_154 rfl rfl ?_
      refine rx_p (L2 := [some (.ref 51), some (.int a1), some (.int a2), some (.int a3), some (.int a4), some (.ref q5), some (.int a6), some (.int a7)]) (S2 := [.int ((m.1 q5 1) ||| ((1 : Int32) <<< ((m.1 56 (a6 + a7).toNatClampNeg) &&& 31))), .ref q5]) (pc2 := 156) op68_155 rfl rfl ?_
      obtain ⟨m30, em30, h⟩ := rq_bv h
      refine rx_pf (m2 := m30) (pc2 := 159) op68_156 (hq5.1) rfl em30 rfl ?_
      obtain ⟨x31, ex31, h⟩ := rq_bv h
      refine rx_inc (w := 1) (v := x31) (L2 := [some (.ref 51), some (.int a1), some (.int a2), some (.int a3), some (.int a4), some (.ref q5), some (.int a6), some (.int x31)]) (pc2 := 162) op68_159 rfl (by decide) ex31 rfl rfl ?_
      refine ry_go (tgt := 122) op68_162 (by decide) (by decide) ?_
      exact ih _ _ hq5 h
    · have h := (if_neg b28).symm.trans h
      cases h
      exact hr _ rfl _
set_option maxHeartbeats 4000000 in
set_option maxRecDepth 20000 in
theorem se_gather_l69_ok (xs : List Int32) {d : Nat} (hd : 23 ≤ d + 1) {a1 : Int32} {a3 : Int32} {r : Option Value} {τ : rn_H} {out : Int32 × rn_Mem} (hr : ∀ (z2 : Int32) (mO : rn_Mem), out = (z2, mO) → ∀ (o4 o5 o6 o7 : Option Value), rn_R xs (d + 1) 68 186 [some (.ref 51), some (.int a1), some (.int z2), some (.int a3), o4, o5, o6, o7] [] (rn_SH, mO) r τ) : ∀ (n : Nat) (a2 : Int32) (a4 : Int32) (o5 o6 o7 : Option Value) (m : rn_Mem), se_gather_l69 a1 a3 n a2 a4 m = some out → rn_R xs (d + 1) 68 69 [some (.ref 51), some (.int a1), some (.int a2), some (.int a3), some (.int a4), o5, o6, o7] [] (rn_SH, m) r τ := by
  intro n
  induction n with
  | zero =>
    intro _ _ _ _ _ _ h
    cases h
  | succ n ih =>
    intro a2 a4 o5 o6 o7 m h
    unfold se_gather_l69 at h
    try dsimp only at h
    refine rx_p (L2 := [some (.ref 51), some (.int a1), some (.int a2), some (.int a3), some (.int a4), o5, o6, o7]) (S2 := [.int a4]) (pc2 := 71) op68_69 rfl rfl ?_
    refine rx_p (L2 := [some (.ref 51), some (.int a1), some (.int a2), some (.int a3), some (.int a4), o5, o6, o7]) (S2 := [.ref 51, .int a4]) (pc2 := 72) op68_71 rfl rfl ?_
    refine rx_gf (v := .ref 53) (pc2 := 75) op68_72 sp_51 rfl rfl rfl ?_
    refine rx_gf (v := .ref 55) (pc2 := 78) op68_75 sp_53 rfl rfl rfl ?_
    refine rx_p (L2 := [some (.ref 51), some (.int a1), some (.int a2), some (.int a3), some (.int a4), o5, o6, o7]) (S2 := [.int a3, .ref 55, .int a4]) (pc2 := 79) op68_78 rfl rfl ?_
    obtain ⟨k21, h⟩ := rq_chk h
    refine rx_ia (pc2 := 80) op68_79 (rn_shlt sp_55) sp_55 k21 rfl rfl ?_
    refine ry_ic_ge (tgt := 186) (pc2 := 83) op68_80 (by decide) (by decide) rfl (fun b22 => ?_) (fun b22 => ?_)
    · have h := (if_pos b22).symm.trans h
      refine rx_p (L2 := [some (.ref 51), some (.int a1), some (.int a2), some (.int a3), some (.int a4), o5, o6, o7]) (S2 := [.int a2]) (pc2 := 84) op68_83 rfl rfl ?_
      refine rx_ic (v := 4) (pc2 := 85) op68_84 (by decide) rfl ?_
      refine ry_ic_ge (tgt := 186) (pc2 := 88) op68_85 (by decide) (by decide) rfl (fun b23 => ?_) (fun b23 => ?_)
      · have h := (if_pos b23).symm.trans h
        refine rx_p (L2 := [some (.ref 51), some (.int a1), some (.int a2), some (.int a3), some (.int a4), o5, o6, o7]) (S2 := [.ref 51]) (pc2 := 89) op68_88 rfl rfl ?_
        refine rx_gf (v := .ref 62) (pc2 := 92) op68_89 sp_51 rfl rfl rfl ?_
        refine rx_p (L2 := [some (.ref 51), some (.int a1), some (.int a2), some (.int a3), some (.int a4), o5, o6, o7]) (S2 := [.int a2, .ref 62]) (pc2 := 93) op68_92 rfl rfl ?_
        obtain ⟨k24, h⟩ := rq_chk h
        refine rx_aa (q := (70 + 8 * a2.toNatClampNeg)) (pc2 := 94) op68_93 sp_62 (by decide) k24 (rn_ways_at k24) rfl ?_
        refine rx_p (L2 := [some (.ref 51), some (.int a1), some (.int a2), some (.int a3), some (.int a4), some (.ref (70 + 8 * a2.toNatClampNeg)), o6, o7]) (S2 := []) (pc2 := 96) op68_94 rfl rfl ?_
        refine rx_p (L2 := [some (.ref 51), some (.int a1), some (.int a2), some (.int a3), some (.int a4), some (.ref (70 + 8 * a2.toNatClampNeg)), o6, o7]) (S2 := [.ref (70 + 8 * a2.toNatClampNeg)]) (pc2 := 98) op68_96 rfl rfl ?_
        refine rx_p (L2 := [some (.ref 51), some (.int a1), some (.int a2), some (.int a3), some (.int a4), some (.ref (70 + 8 * a2.toNatClampNeg)), o6, o7]) (S2 := [.int a3, .ref (70 + 8 * a2.toNatClampNeg)]) (pc2 := 99) op68_98 rfl rfl ?_
        obtain ⟨m25, f26, h⟩ := rq_bind h
        try dsimp only at h
        refine ry_iv (p := (70 + 8 * a2.toNatClampNeg)) (vs := [.int a3]) (T := []) (pc2 := 102) op68_99 ms_70 (by decide) rfl rfl (Nat.le_of_ble_eq_true rfl) (Nat.le_of_ble_eq_true rfl) ((rn_ways_asm k24).1) (wa_begin_ok xs (by omega) (rn_ways_asm k24) f26) rfl ?_
        show rn_R _ _ _ _ _ [] _ _ _
        refine rx_p (L2 := [some (.ref 51), some (.int a1), some (.int a2), some (.int a3), some (.int a4), some (.ref (70 + 8 * a2.toNatClampNeg)), o6, o7]) (S2 := [.int a3]) (pc2 := 103) op68_102 rfl rfl ?_
        refine rx_bp (v := 12) (pc2 := 105) op68_103 (by decide) rfl ?_
        refine rx_p (L2 := [some (.ref 51), some (.int a1), some (.int a2), some (.int a3), some (.int a4), some (.ref (70 + 8 * a2.toNatClampNeg)), o6, o7]) (S2 := [.int (a3 * 12)]) (pc2 := 106) op68_105 rfl rfl ?_
        refine rx_p (L2 := [some (.ref 51), some (.int a1), some (.int a2), some (.int a3), some (.int a4), some (.ref (70 + 8 * a2.toNatClampNeg)), o6, o7]) (S2 := [.int a4, .int (a3 * 12)]) (pc2 := 108) op68_106 rfl rfl ?_
        refine rx_p (L2 := [some (.ref 51), some (.int a1), some (.int a2), some (.int a3), some (.int a4), some (.ref (70 + 8 * a2.toNatClampNeg)), o6, o7]) (S2 := [.ref 51, .int a4, .int (a3 * 12)]) (pc2 := 109) op68_108 rfl rfl ?_
        refine rx_gf (v := .ref 52) (pc2 := 112) op68_109 sp_51 rfl rfl rfl ?_
        refine rx_gf (v := .int (m25.1 52 1)) (pc2 := 115) op68_112 sp_52 rfl rfl rfl ?_
        refine rx_p (L2 := [some (.ref 51), some (.int a1), some (.int a2), some (.int a3), some (.int a4), some (.ref (70 + 8 * a2.toNatClampNeg)), o6, o7]) (S2 := [.int (a4 * (m25.1 52 1)), .int (a3 * 12)]) (pc2 := 116) op68_115 rfl rfl ?_
        refine rx_p (L2 := [some (.ref 51), some (.int a1), some (.int a2), some (.int a3), some (.int a4), some (.ref (70 + 8 * a2.toNatClampNeg)), o6, o7]) (S2 := [.int ((a3 * 12) + (a4 * (m25.1 52 1)))]) (pc2 := 117) op68_116 rfl rfl ?_
        obtain ⟨x27, ex27, h⟩ := rq_bv h
        refine rx_s (v := x27) (L2 := [some (.ref 51), some (.int a1), some (.int a2), some (.int a3), some (.int a4), some (.ref (70 + 8 * a2.toNatClampNeg)), some (.int x27), o7]) (pc2 := 119) op68_117 ex27 rfl rfl ?_
        refine rx_ic (v := 0) (pc2 := 120) op68_119 (by decide) rfl ?_
        refine rx_s (L2 := [some (.ref 51), some (.int a1), some (.int a2), some (.int a3), some (.int a4), some (.ref (70 + 8 * a2.toNatClampNeg)), some (.int x27), some (.int 0)]) (pc2 := 122) op68_120 rfl rfl rfl ?_
        obtain ⟨m32, f38, h⟩ := rq_bind h
        refine se_gather_l122_ok xs hd (fun m0 eq => ?_) _ _ _ (rn_ways_asm k24) f38
        subst eq
        try dsimp only at h
        intro o33
        refine rx_p (L2 := [some (.ref 51), some (.int a1), some (.int a2), some (.int a3), some (.int a4), some (.ref (70 + 8 * a2.toNatClampNeg)), some (.int x27), o33]) (S2 := [.ref 51]) (pc2 := 166) op68_165 rfl rfl ?_
        refine rx_p (L2 := [some (.ref 51), some (.int a1), some (.int a2), some (.int a3), some (.int a4), some (.ref (70 + 8 * a2.toNatClampNeg)), some (.int x27), o33]) (S2 := [.ref (70 + 8 * a2.toNatClampNeg), .ref 51]) (pc2 := 168) op68_166 rfl rfl ?_
        refine rx_p (L2 := [some (.ref 51), some (.int a1), some (.int a2), some (.int a3), some (.int a4), some (.ref (70 + 8 * a2.toNatClampNeg)), some (.int x27), o33]) (S2 := [.int x27, .ref (70 + 8 * a2.toNatClampNeg), .ref 51]) (pc2 := 170) op68_168 rfl rfl ?_
        refine rx_ic (v := 0) (pc2 := 171) op68_170 (by decide) rfl ?_
        refine rx_ic (v := 0) (pc2 := 172) op68_171 (by decide) rfl ?_
        refine rx_ic (v := 0) (pc2 := 173) op68_172 (by decide) rfl ?_
        refine rx_p (L2 := [some (.ref 51), some (.int a1), some (.int a2), some (.int a3), some (.int a4), some (.ref (70 + 8 * a2.toNatClampNeg)), some (.int x27), o33]) (S2 := [.int a1, .int 0, .int 0, .int 0, .int x27, .ref (70 + 8 * a2.toNatClampNeg), .ref 51]) (pc2 := 174) op68_173 rfl rfl ?_
        obtain ⟨m34, f35, h⟩ := rq_bind h
        try dsimp only at h
        refine ry_iv (p := 51) (vs := [.ref (70 + 8 * a2.toNatClampNeg), .int x27, .int 0, .int 0, .int 0, .int a1]) (T := []) (pc2 := 177) op68_174 ms_71 (by decide) rfl rfl (Nat.le_of_ble_eq_true rfl) (Nat.le_of_ble_eq_true rfl) sp_51 (se_arrange_ok xs 16 (by omega) (rn_ways_asm k24) f35) rfl ?_
        show rn_R _ _ _ _ _ [] _ _ _
        obtain ⟨x36, ex36, h⟩ := rq_bv h
        refine rx_inc (w := 1) (v := x36) (L2 := [some (.ref 51), some (.int a1), some (.int x36), some (.int a3), some (.int a4), some (.ref (70 + 8 * a2.toNatClampNeg)), some (.int x27), o33]) (pc2 := 180) op68_177 rfl (by decide) ex36 rfl rfl ?_
        obtain ⟨x37, ex37, h⟩ := rq_bv h
        refine rx_inc (w := 1) (v := x37) (L2 := [some (.ref 51), some (.int a1), some (.int x36), some (.int a3), some (.int x37), some (.ref (70 + 8 * a2.toNatClampNeg)), some (.int x27), o33]) (pc2 := 183) op68_180 rfl (by decide) ex37 rfl rfl ?_
        refine ry_go (tgt := 69) op68_183 (by decide) (by decide) ?_
        exact ih _ _ _ _ _ _ h
      · have h := (if_neg b23).symm.trans h
        cases h
        exact hr _ _ rfl _ _ _ _
    · have h := (if_neg b22).symm.trans h
      cases h
      exact hr _ _ rfl _ _ _ _
set_option maxHeartbeats 4000000 in
set_option maxRecDepth 20000 in
theorem se_gather_l33_ok (xs : List Int32) {d : Nat} (hd : 23 ≤ d + 1) {a1 : Int32} {r : Option Value} {τ : rn_H} {out : rn_Mem} (hr : ∀ (mO : rn_Mem), out = mO → ∀ (o0 o1 o2 o3 o4 o5 o6 o7 : Option Value), rn_R xs (d + 1) 68 192 [o0, o1, o2, o3, o4, o5, o6, o7] [] (rn_SH, mO) r τ) : ∀ (n : Nat) (a2 : Int32) (a3 : Int32) (o4 o5 o6 o7 : Option Value) (m : rn_Mem), se_gather_l33 a1 n a2 a3 m = some out → rn_R xs (d + 1) 68 33 [some (.ref 51), some (.int a1), some (.int a2), some (.int a3), o4, o5, o6, o7] [] (rn_SH, m) r τ := by
  intro n
  induction n with
  | zero =>
    intro _ _ _ _ _ _ _ h
    cases h
  | succ n ih =>
    intro a2 a3 o4 o5 o6 o7 m h
    unfold se_gather_l33 at h
    try dsimp only at h
    refine rx_p (L2 := [some (.ref 51), some (.int a1), some (.int a2), some (.int a3), o4, o5, o6, o7]) (S2 := [.int a3]) (pc2 := 34) op68_33 rfl rfl ?_
    refine rx_p (L2 := [some (.ref 51), some (.int a1), some (.int a2), some (.int a3), o4, o5, o6, o7]) (S2 := [.ref 51, .int a3]) (pc2 := 35) op68_34 rfl rfl ?_
    refine rx_gf (v := .ref 52) (pc2 := 38) op68_35 sp_51 rfl rfl rfl ?_
    refine rx_gf (v := .int (m.1 52 1)) (pc2 := 41) op68_38 sp_52 rfl rfl rfl ?_
    refine ry_ic_ge (tgt := 192) (pc2 := 44) op68_41 (by decide) (by decide) rfl (fun b15 => ?_) (fun b15 => ?_)
    · have h := (if_pos b15).symm.trans h
      refine rx_p (L2 := [some (.ref 51), some (.int a1), some (.int a2), some (.int a3), o4, o5, o6, o7]) (S2 := [.ref 51]) (pc2 := 45) op68_44 rfl rfl ?_
      refine rx_gf (v := .ref 63) (pc2 := 48) op68_45 sp_51 rfl rfl rfl ?_
      refine rx_p (L2 := [some (.ref 51), some (.int a1), some (.int a2), some (.int a3), o4, o5, o6, o7]) (S2 := [.int a3, .ref 63]) (pc2 := 49) op68_48 rfl rfl ?_
      refine rx_p (L2 := [some (.ref 51), some (.int a1), some (.int a2), some (.int a3), o4, o5, o6, o7]) (S2 := [.int a2, .int a3, .ref 63]) (pc2 := 50) op68_49 rfl rfl ?_
      obtain ⟨k17, h⟩ := rq_chk h
      obtain ⟨m16, em16, h⟩ := rq_bv h
      refine rx_is (m2 := m16) (pc2 := 51) op68_50 sp_63 k17 rfl em16 rfl ?_
      refine rx_p (L2 := [some (.ref 51), some (.int a1), some (.int a2), some (.int a3), o4, o5, o6, o7]) (S2 := [.ref 51]) (pc2 := 52) op68_51 rfl rfl ?_
      refine rx_gf (v := .ref 64) (pc2 := 55) op68_52 sp_51 rfl rfl rfl ?_
      refine rx_p (L2 := [some (.ref 51), some (.int a1), some (.int a2), some (.int a3), o4, o5, o6, o7]) (S2 := [.int a3, .ref 64]) (pc2 := 56) op68_55 rfl rfl ?_
      refine rx_p (L2 := [some (.ref 51), some (.int a1), some (.int a2), some (.int a3), o4, o5, o6, o7]) (S2 := [.ref 51, .int a3, .ref 64]) (pc2 := 57) op68_56 rfl rfl ?_
      refine rx_gf (v := .ref 53) (pc2 := 60) op68_57 sp_51 rfl rfl rfl ?_
      refine rx_gf (v := .ref 55) (pc2 := 63) op68_60 sp_53 rfl rfl rfl ?_
      refine rx_p (L2 := [some (.ref 51), some (.int a1), some (.int a2), some (.int a3), o4, o5, o6, o7]) (S2 := [.int a3, .ref 55, .int a3, .ref 64]) (pc2 := 64) op68_63 rfl rfl ?_
      obtain ⟨k18, h⟩ := rq_chk h
      refine rx_ia (pc2 := 65) op68_64 (rn_shlt sp_55) sp_55 k18 rfl rfl ?_
      obtain ⟨k20, h⟩ := rq_chk h
      obtain ⟨m19, em19, h⟩ := rq_bv h
      refine rx_is (m2 := m19) (pc2 := 66) op68_65 sp_64 k20 rfl em19 rfl ?_
      refine rx_ic (v := 0) (pc2 := 67) op68_66 (by decide) rfl ?_
      refine rx_s (L2 := [some (.ref 51), some (.int a1), some (.int a2), some (.int a3), some (.int 0), o5, o6, o7]) (pc2 := 69) op68_67 rfl rfl rfl ?_
      obtain ⟨wf46, f46, h⟩ := rq_bind h
      refine se_gather_l69_ok xs hd (fun x40 m39 eq => ?_) _ _ _ _ _ _ _  f46
      subst eq
      try dsimp only at h
      intro o41 o42 o43 o44
      obtain ⟨x45, ex45, h⟩ := rq_bv h
      refine rx_inc (w := 1) (v := x45) (L2 := [some (.ref 51), some (.int a1), some (.int x40), some (.int x45), o41, o42, o43, o44]) (pc2 := 189) op68_186 rfl (by decide) ex45 rfl rfl ?_
      refine ry_go (tgt := 33) op68_189 (by decide) (by decide) ?_
      exact ih _ _ _ _ _ _ _ h
    · have h := (if_neg b15).symm.trans h
      cases h
      exact hr _ rfl _ _ _ _ _ _ _ _
set_option maxHeartbeats 4000000 in
set_option maxRecDepth 20000 in
theorem se_gather_ok (xs : List Int32) {d : Nat} (hd : 23 ≤ d) {n : Nat} {m mO : rn_Mem} (h : se_gather n  m = some mO) : rn_R xs d 68 0 (rn_ent 8 [.ref 51]) [] (rn_SH, m) none (rn_SH, mO) := by
  obtain ⟨d, rfl⟩ : ∃ e, d = e + 1 := ⟨d - 1, by omega⟩
  unfold se_gather at h
  show rn_R xs (d + 1) 68 0 [some (.ref 51), none, none, none, none, none, none, none] [] (rn_SH, m) none (rn_SH, mO)
  refine rx_p (L2 := [some (.ref 51), none, none, none, none, none, none, none]) (S2 := [.ref 51]) (pc2 := 1) op68_0 rfl rfl ?_
  refine rx_gf (v := .ref 52) (pc2 := 4) op68_1 sp_51 rfl rfl rfl ?_
  refine rx_gf (v := .int (m.1 52 5)) (pc2 := 7) op68_4 sp_52 rfl rfl rfl ?_
  refine rx_ic (v := 1) (pc2 := 8) op68_7 (by decide) rfl ?_
  obtain ⟨⟨x12, m13⟩, gc57, h⟩ := rq_bind h
  try dsimp only at h
  have c57 : ∀ (o5 o6 o7 o8 o9 o10 o11 : Option Value), rn_R xs (d + 1) 68 23 [some (.ref 51), o5, o6, o7, o8, o9, o10, o11] [.int x12] (rn_SH, m13) none (rn_SH, mO) := by
    intro o5 o6 o7 o8 o9 o10 o11
    refine rx_s (L2 := [some (.ref 51), some (.int x12), o6, o7, o8, o9, o10, o11]) (pc2 := 24) op68_23 rfl rfl rfl ?_
    refine rx_ic (v := 0) (pc2 := 25) op68_24 (by decide) rfl ?_
    refine rx_s (L2 := [some (.ref 51), some (.int x12), some (.int 0), o7, o8, o9, o10, o11]) (pc2 := 26) op68_25 rfl rfl rfl ?_
    refine rx_p (L2 := [some (.ref 51), some (.int x12), some (.int 0), o7, o8, o9, o10, o11]) (S2 := [.ref 51]) (pc2 := 27) op68_26 rfl rfl ?_
    refine rx_ic (v := 0) (pc2 := 28) op68_27 (by decide) rfl ?_
    obtain ⟨m14, em14, h⟩ := rq_bv h
    refine rx_pf (m2 := m14) (pc2 := 31) op68_28 sp_51 rfl em14 rfl ?_
    refine rx_ic (v := 0) (pc2 := 32) op68_31 (by decide) rfl ?_
    refine rx_s (L2 := [some (.ref 51), some (.int x12), some (.int 0), some (.int 0), o8, o9, o10, o11]) (pc2 := 33) op68_32 rfl rfl rfl ?_
    obtain ⟨m47, f56, h⟩ := rq_bind h
    refine se_gather_l33_ok xs hd (fun m0 eq => ?_) _ _ _ _ _ _ _ _  f56
    subst eq
    try dsimp only at h
    intro o48 o49 o50 o51 o52 o53 o54 o55
    obtain rfl := Option.some.inj h
    exact ry_rv op68_192 ms_68 rfl
  refine ry_ic_ne (tgt := 21) (pc2 := 11) op68_8 (by decide) (by decide) rfl (fun b1 => ?_) (fun b1 => ?_)
  · have gc57 := (if_pos b1).symm.trans gc57
    refine rx_p (L2 := [some (.ref 51), none, none, none, none, none, none, none]) (S2 := [.ref 51]) (pc2 := 12) op68_11 rfl rfl ?_
    refine rx_gf (v := .ref 57) (pc2 := 15) op68_12 sp_51 rfl rfl rfl ?_
    obtain ⟨⟨r3, m2⟩, f4, gc57⟩ := rq_bind gc57
    try dsimp only at gc57
    refine ry_iv (p := 57) (vs := []) (T := []) (pc2 := 18) op68_15 ms_69 (by decide) rfl rfl (Nat.le_of_ble_eq_true rfl) (Nat.le_of_ble_eq_true rfl) sp_57 (cl_suitsAsked_ok xs (by omega) sa_57 f4) rfl ?_
    show rn_R _ _ _ _ _ [.int r3] _ _ _
    refine ry_go (tgt := 23) op68_18 (by decide) (by decide) ?_
    cases gc57
    exact c57 _ _ _ _ _ _ _
  · have gc57 := (if_neg b1).symm.trans gc57
    refine rx_ld (v := 65535) (pc2 := 23) op68_21 (by decide) rfl ?_
    cases gc57
    exact c57 _ _ _ _ _ _ _
/-! se_lastLeader -/
theorem op76_0 : rn_op 76 0 = some (.aload_n 0, 1, 0, 0, 0) := by decide +kernel
theorem op76_1 : rn_op 76 1 = some (.getfield 12, 3, 4, 0, 3) := by decide +kernel
theorem op76_4 : rn_op 76 4 = some (.getfield 156, 3, 1, 6, 0) := by decide +kernel
theorem op76_7 : rn_op 76 7 = some (.ifCond .eq 13, 3, 0, 0, 0) := by decide +kernel
theorem op76_10 : rn_op 76 10 = some (.aload_n 0, 1, 0, 0, 0) := by decide +kernel
theorem op76_11 : rn_op 76 11 = some (.getfield 12, 3, 4, 0, 3) := by decide +kernel
theorem op76_14 : rn_op 76 14 = some (.getfield 159, 3, 1, 8, 0) := by decide +kernel
theorem op76_17 : rn_op 76 17 = some (.ifCond .ge 5, 3, 0, 0, 0) := by decide +kernel
theorem op76_20 : rn_op 76 20 = some (.iconst (-1), 1, 0, 0, 0) := by decide +kernel
theorem op76_21 : rn_op 76 21 = some (.ireturn, 1, 0, 0, 0) := by decide +kernel
theorem op76_22 : rn_op 76 22 = some (.aload_n 0, 1, 0, 0, 0) := by decide +kernel
theorem op76_23 : rn_op 76 23 = some (.getfield 12, 3, 4, 0, 3) := by decide +kernel
theorem op76_26 : rn_op 76 26 = some (.getfield 159, 3, 1, 8, 0) := by decide +kernel
theorem op76_29 : rn_op 76 29 = some (.istore_n 1, 1, 0, 0, 0) := by decide +kernel
theorem op76_30 : rn_op 76 30 = some (.iconst 1, 1, 0, 0, 0) := by decide +kernel
theorem op76_31 : rn_op 76 31 = some (.istore_n 2, 1, 0, 0, 0) := by decide +kernel
theorem op76_32 : rn_op 76 32 = some (.iload_n 2, 1, 0, 0, 0) := by decide +kernel
theorem op76_33 : rn_op 76 33 = some (.aload_n 0, 1, 0, 0, 0) := by decide +kernel
theorem op76_34 : rn_op 76 34 = some (.getfield 12, 3, 4, 0, 3) := by decide +kernel
theorem op76_37 : rn_op 76 37 = some (.getfield 129, 3, 1, 2, 0) := by decide +kernel
theorem op76_40 : rn_op 76 40 = some (.if_icmp .ge 18, 3, 0, 0, 0) := by decide +kernel
theorem op76_43 : rn_op 76 43 = some (.aload_n 0, 1, 0, 0, 0) := by decide +kernel
theorem op76_44 : rn_op 76 44 = some (.getfield 12, 3, 4, 0, 3) := by decide +kernel
theorem op76_47 : rn_op 76 47 = some (.iload_n 1, 1, 0, 0, 0) := by decide +kernel
theorem op76_48 : rn_op 76 48 = some (.invokevirtual 162, 3, 53, 2, 1) := by decide +kernel
theorem op76_51 : rn_op 76 51 = some (.istore_n 1, 1, 0, 0, 0) := by decide +kernel
theorem op76_52 : rn_op 76 52 = some (.iinc 2 1, 3, 0, 0, 0) := by decide +kernel
theorem op76_55 : rn_op 76 55 = some (.goto (-23), 3, 0, 0, 0) := by decide +kernel
theorem op76_58 : rn_op 76 58 = some (.iload_n 1, 1, 0, 0, 0) := by decide +kernel
theorem op76_59 : rn_op 76 59 = some (.ireturn, 1, 0, 0, 0) := by decide +kernel
def se_lastLeader_l32  : Nat → Int32 → Int32 → rn_Mem → Option (Int32 × rn_Mem)
  | 0, _, _, _ => none
  | n + 1, a1, a2, m =>
    if a2 < (m.1 52 2) then
      (ga_next n 52 a1 m).bind fun (r6, m5) =>
      (some (a2 + 1)).bind fun (x8 : Int32) =>
      se_lastLeader_l32 n r6 x8 m5
    else
      some (a1, m)
def se_lastLeader (n : Nat)  (m : rn_Mem) : Option (Int32 × rn_Mem) :=
  if (m.1 52 6) = 0 then
    some ((-1), m)
  else
    if (m.1 52 8) < 0 then
      some ((-1), m)
    else
      (some (m.1 52 8)).bind fun (x3 : Int32) =>
      (se_lastLeader_l32 n x3 1 m).bind fun (x11, m9) =>
      some (x11, m9)
set_option maxHeartbeats 4000000 in
set_option maxRecDepth 20000 in
theorem se_lastLeader_l32_ok (xs : List Int32) {d : Nat} (hd : 1 ≤ d + 1) {r : Option Value} {τ : rn_H} {out : Int32 × rn_Mem} (hr : ∀ (z1 : Int32) (mO : rn_Mem), out = (z1, mO) → ∀ (o0 o2 : Option Value), rn_R xs (d + 1) 76 58 [o0, some (.int z1), o2] [] (rn_SH, mO) r τ) : ∀ (n : Nat) (a1 : Int32) (a2 : Int32) (m : rn_Mem), se_lastLeader_l32 n a1 a2 m = some out → rn_R xs (d + 1) 76 32 [some (.ref 51), some (.int a1), some (.int a2)] [] (rn_SH, m) r τ := by
  intro n
  induction n with
  | zero =>
    intro _ _ _ h
    cases h
  | succ n ih =>
    intro a1 a2 m h
    unfold se_lastLeader_l32 at h
    try dsimp only at h
    refine rx_p (L2 := [some (.ref 51), some (.int a1), some (.int a2)]) (S2 := [.int a2]) (pc2 := 33) op76_32 rfl rfl ?_
    refine rx_p (L2 := [some (.ref 51), some (.int a1), some (.int a2)]) (S2 := [.ref 51, .int a2]) (pc2 := 34) op76_33 rfl rfl ?_
    refine rx_gf (v := .ref 52) (pc2 := 37) op76_34 sp_51 rfl rfl rfl ?_
    refine rx_gf (v := .int (m.1 52 2)) (pc2 := 40) op76_37 sp_52 rfl rfl rfl ?_
    refine ry_ic_ge (tgt := 58) (pc2 := 43) op76_40 (by decide) (by decide) rfl (fun b4 => ?_) (fun b4 => ?_)
    · have h := (if_pos b4).symm.trans h
      refine rx_p (L2 := [some (.ref 51), some (.int a1), some (.int a2)]) (S2 := [.ref 51]) (pc2 := 44) op76_43 rfl rfl ?_
      refine rx_gf (v := .ref 52) (pc2 := 47) op76_44 sp_51 rfl rfl rfl ?_
      refine rx_p (L2 := [some (.ref 51), some (.int a1), some (.int a2)]) (S2 := [.int a1, .ref 52]) (pc2 := 48) op76_47 rfl rfl ?_
      obtain ⟨⟨r6, m5⟩, f7, h⟩ := rq_bind h
      try dsimp only at h
      refine ry_iv (p := 52) (vs := [.int a1]) (T := []) (pc2 := 51) op76_48 ms_53 (by decide) rfl rfl (Nat.le_of_ble_eq_true rfl) (Nat.le_of_ble_eq_true rfl) sp_52 (ga_next_ok xs (by omega) sa_52 f7) rfl ?_
      show rn_R _ _ _ _ _ [.int r6] _ _ _
      refine rx_s (L2 := [some (.ref 51), some (.int r6), some (.int a2)]) (pc2 := 52) op76_51 rfl rfl rfl ?_
      obtain ⟨x8, ex8, h⟩ := rq_bv h
      refine rx_inc (w := 1) (v := x8) (L2 := [some (.ref 51), some (.int r6), some (.int x8)]) (pc2 := 55) op76_52 rfl (by decide) ex8 rfl rfl ?_
      refine ry_go (tgt := 32) op76_55 (by decide) (by decide) ?_
      exact ih _ _ _ h
    · have h := (if_neg b4).symm.trans h
      cases h
      exact hr _ _ rfl _ _
set_option maxHeartbeats 4000000 in
set_option maxRecDepth 20000 in
theorem se_lastLeader_ok (xs : List Int32) {d : Nat} (hd : 1 ≤ d) {n : Nat} {m mO : rn_Mem} {rO : Int32} (h : se_lastLeader n  m = some (rO, mO)) : rn_R xs d 76 0 (rn_ent 3 [.ref 51]) [] (rn_SH, m) (some (.int rO)) (rn_SH, mO) := by
  obtain ⟨d, rfl⟩ : ∃ e, d = e + 1 := ⟨d - 1, by omega⟩
  unfold se_lastLeader at h
  show rn_R xs (d + 1) 76 0 [some (.ref 51), none, none] [] (rn_SH, m) (some (.int rO)) (rn_SH, mO)
  refine rx_p (L2 := [some (.ref 51), none, none]) (S2 := [.ref 51]) (pc2 := 1) op76_0 rfl rfl ?_
  refine rx_gf (v := .ref 52) (pc2 := 4) op76_1 sp_51 rfl rfl rfl ?_
  refine rx_gf (v := .int (m.1 52 6)) (pc2 := 7) op76_4 sp_52 rfl rfl rfl ?_
  refine ry_if_eq (tgt := 20) (pc2 := 10) op76_7 (by decide) (by decide) rfl (fun b1 => ?_) (fun b1 => ?_)
  · have h := (if_pos b1).symm.trans h
    refine rx_ic (v := (-1)) (pc2 := 21) op76_20 (by decide) rfl ?_
    obtain ⟨rfl, rfl⟩ := rq_ret h
    exact ry_ri op76_21 ms_76 rfl
  · have h := (if_neg b1).symm.trans h
    refine rx_p (L2 := [some (.ref 51), none, none]) (S2 := [.ref 51]) (pc2 := 11) op76_10 rfl rfl ?_
    refine rx_gf (v := .ref 52) (pc2 := 14) op76_11 sp_51 rfl rfl rfl ?_
    refine rx_gf (v := .int (m.1 52 8)) (pc2 := 17) op76_14 sp_52 rfl rfl rfl ?_
    refine ry_if_ge (tgt := 22) (pc2 := 20) op76_17 (by decide) (by decide) rfl (fun b2 => ?_) (fun b2 => ?_)
    · have h := (if_pos b2).symm.trans h
      refine rx_ic (v := (-1)) (pc2 := 21) op76_20 (by decide) rfl ?_
      obtain ⟨rfl, rfl⟩ := rq_ret h
      exact ry_ri op76_21 ms_76 rfl
    · have h := (if_neg b2).symm.trans h
      refine rx_p (L2 := [some (.ref 51), none, none]) (S2 := [.ref 51]) (pc2 := 23) op76_22 rfl rfl ?_
      refine rx_gf (v := .ref 52) (pc2 := 26) op76_23 sp_51 rfl rfl rfl ?_
      refine rx_gf (v := .int (m.1 52 8)) (pc2 := 29) op76_26 sp_52 rfl rfl rfl ?_
      obtain ⟨x3, ex3, h⟩ := rq_bv h
      refine rx_s (v := x3) (L2 := [some (.ref 51), some (.int x3), none]) (pc2 := 30) op76_29 ex3 rfl rfl ?_
      refine rx_ic (v := 1) (pc2 := 31) op76_30 (by decide) rfl ?_
      refine rx_s (L2 := [some (.ref 51), some (.int x3), some (.int 1)]) (pc2 := 32) op76_31 rfl rfl rfl ?_
      obtain ⟨wf13, f13, h⟩ := rq_bind h
      refine se_lastLeader_l32_ok xs hd (fun x11 m9 eq => ?_) _ _ _ _  f13
      subst eq
      try dsimp only at h
      intro o10 o12
      refine rx_p (L2 := [o10, some (.int x11), o12]) (S2 := [.int x11]) (pc2 := 59) op76_58 rfl rfl ?_
      obtain ⟨rfl, rfl⟩ := rq_ret h
      exact ry_ri op76_59 ms_76 rfl
/-! se_chairsIn -/
theorem op79_0 : rn_op 79 0 = some (.iload_n 0, 1, 0, 0, 0) := by decide +kernel
theorem op79_1 : rn_op 79 1 = some (.iload_n 0, 1, 0, 0, 0) := by decide +kernel
theorem op79_2 : rn_op 79 2 = some (.iconst 1, 1, 0, 0, 0) := by decide +kernel
theorem op79_3 : rn_op 79 3 = some (.ishr, 1, 0, 0, 0) := by decide +kernel
theorem op79_4 : rn_op 79 4 = some (.ior, 1, 0, 0, 0) := by decide +kernel
theorem op79_5 : rn_op 79 5 = some (.istore_n 1, 1, 0, 0, 0) := by decide +kernel
theorem op79_6 : rn_op 79 6 = some (.iload_n 1, 1, 0, 0, 0) := by decide +kernel
theorem op79_7 : rn_op 79 7 = some (.iload_n 1, 1, 0, 0, 0) := by decide +kernel
theorem op79_8 : rn_op 79 8 = some (.iconst 2, 1, 0, 0, 0) := by decide +kernel
theorem op79_9 : rn_op 79 9 = some (.ishr, 1, 0, 0, 0) := by decide +kernel
theorem op79_10 : rn_op 79 10 = some (.ior, 1, 0, 0, 0) := by decide +kernel
theorem op79_11 : rn_op 79 11 = some (.sipush 4369, 3, 0, 0, 0) := by decide +kernel
theorem op79_14 : rn_op 79 14 = some (.iand, 1, 0, 0, 0) := by decide +kernel
theorem op79_15 : rn_op 79 15 = some (.ireturn, 1, 0, 0, 0) := by decide +kernel
def se_chairsIn (n : Nat) (a0 : Int32) (m : rn_Mem) : Option (Int32 × rn_Mem) :=
  (some (a0 ||| (a0 >>> (1 &&& 31)))).bind fun (x1 : Int32) =>
  some ((x1 ||| (x1 >>> (2 &&& 31))) &&& 4369, m)
set_option maxHeartbeats 4000000 in
set_option maxRecDepth 20000 in
theorem se_chairsIn_ok (xs : List Int32) {d : Nat} (hd : 0 ≤ d) {n : Nat} {a0 : Int32} {m mO : rn_Mem} {rO : Int32} (h : se_chairsIn n a0 m = some (rO, mO)) : rn_R xs d 79 0 (rn_ent 2 [.int a0]) [] (rn_SH, m) (some (.int rO)) (rn_SH, mO) := by
  unfold se_chairsIn at h
  show rn_R xs d 79 0 [some (.int a0), none] [] (rn_SH, m) (some (.int rO)) (rn_SH, mO)
  refine rx_p (L2 := [some (.int a0), none]) (S2 := [.int a0]) (pc2 := 1) op79_0 rfl rfl ?_
  refine rx_p (L2 := [some (.int a0), none]) (S2 := [.int a0, .int a0]) (pc2 := 2) op79_1 rfl rfl ?_
  refine rx_ic (v := 1) (pc2 := 3) op79_2 (by decide) rfl ?_
  refine rx_p (L2 := [some (.int a0), none]) (S2 := [.int (a0 >>> (1 &&& 31)), .int a0]) (pc2 := 4) op79_3 rfl rfl ?_
  refine rx_p (L2 := [some (.int a0), none]) (S2 := [.int (a0 ||| (a0 >>> (1 &&& 31)))]) (pc2 := 5) op79_4 rfl rfl ?_
  obtain ⟨x1, ex1, h⟩ := rq_bv h
  refine rx_s (v := x1) (L2 := [some (.int a0), some (.int x1)]) (pc2 := 6) op79_5 ex1 rfl rfl ?_
  refine rx_p (L2 := [some (.int a0), some (.int x1)]) (S2 := [.int x1]) (pc2 := 7) op79_6 rfl rfl ?_
  refine rx_p (L2 := [some (.int a0), some (.int x1)]) (S2 := [.int x1, .int x1]) (pc2 := 8) op79_7 rfl rfl ?_
  refine rx_ic (v := 2) (pc2 := 9) op79_8 (by decide) rfl ?_
  refine rx_p (L2 := [some (.int a0), some (.int x1)]) (S2 := [.int (x1 >>> (2 &&& 31)), .int x1]) (pc2 := 10) op79_9 rfl rfl ?_
  refine rx_p (L2 := [some (.int a0), some (.int x1)]) (S2 := [.int (x1 ||| (x1 >>> (2 &&& 31)))]) (pc2 := 11) op79_10 rfl rfl ?_
  refine rx_sp (v := 4369) (pc2 := 14) op79_11 (by decide) rfl ?_
  refine rx_p (L2 := [some (.int a0), some (.int x1)]) (S2 := [.int ((x1 ||| (x1 >>> (2 &&& 31))) &&& 4369)]) (pc2 := 15) op79_14 rfl rfl ?_
  obtain ⟨rfl, rfl⟩ := rq_ret h
  exact ry_ri op79_15 ms_79 rfl
/-! se_mayLead -/
theorem op80_0 : rn_op 80 0 = some (.iload_n 1, 1, 0, 0, 0) := by decide +kernel
theorem op80_1 : rn_op 80 1 = some (.ifCond .ne 26, 3, 0, 0, 0) := by decide +kernel
theorem op80_4 : rn_op 80 4 = some (.aload_n 0, 1, 0, 0, 0) := by decide +kernel
theorem op80_5 : rn_op 80 5 = some (.getfield 12, 3, 4, 0, 3) := by decide +kernel
theorem op80_8 : rn_op 80 8 = some (.getfield 159, 3, 1, 8, 0) := by decide +kernel
theorem op80_11 : rn_op 80 11 = some (.ifCond .lt 16, 3, 0, 0, 0) := by decide +kernel
theorem op80_14 : rn_op 80 14 = some (.iload_n 2, 1, 0, 0, 0) := by decide +kernel
theorem op80_15 : rn_op 80 15 = some (.aload_n 0, 1, 0, 0, 0) := by decide +kernel
theorem op80_16 : rn_op 80 16 = some (.getfield 12, 3, 4, 0, 3) := by decide +kernel
theorem op80_19 : rn_op 80 19 = some (.getfield 159, 3, 1, 8, 0) := by decide +kernel
theorem op80_22 : rn_op 80 22 = some (.if_icmp .eq 5, 3, 0, 0, 0) := by decide +kernel
theorem op80_25 : rn_op 80 25 = some (.iconst 0, 1, 0, 0, 0) := by decide +kernel
theorem op80_26 : rn_op 80 26 = some (.ireturn, 1, 0, 0, 0) := by decide +kernel
theorem op80_27 : rn_op 80 27 = some (.aload_n 0, 1, 0, 0, 0) := by decide +kernel
theorem op80_28 : rn_op 80 28 = some (.getfield 12, 3, 4, 0, 3) := by decide +kernel
theorem op80_31 : rn_op 80 31 = some (.getfield 156, 3, 1, 6, 0) := by decide +kernel
theorem op80_34 : rn_op 80 34 = some (.iconst 1, 1, 0, 0, 0) := by decide +kernel
theorem op80_35 : rn_op 80 35 = some (.if_icmp .ne 18, 3, 0, 0, 0) := by decide +kernel
theorem op80_38 : rn_op 80 38 = some (.iload_n 3, 1, 0, 0, 0) := by decide +kernel
theorem op80_39 : rn_op 80 39 = some (.ifCond .lt 8, 3, 0, 0, 0) := by decide +kernel
theorem op80_42 : rn_op 80 42 = some (.iload_n 2, 1, 0, 0, 0) := by decide +kernel
theorem op80_43 : rn_op 80 43 = some (.iload_n 3, 1, 0, 0, 0) := by decide +kernel
theorem op80_44 : rn_op 80 44 = some (.if_icmp .ne 7, 3, 0, 0, 0) := by decide +kernel
theorem op80_47 : rn_op 80 47 = some (.iconst 1, 1, 0, 0, 0) := by decide +kernel
theorem op80_48 : rn_op 80 48 = some (.goto 4, 3, 0, 0, 0) := by decide +kernel
theorem op80_51 : rn_op 80 51 = some (.iconst 0, 1, 0, 0, 0) := by decide +kernel
theorem op80_52 : rn_op 80 52 = some (.ireturn, 1, 0, 0, 0) := by decide +kernel
theorem op80_53 : rn_op 80 53 = some (.iload_n 1, 1, 0, 0, 0) := by decide +kernel
theorem op80_54 : rn_op 80 54 = some (.ifCond .eq 12, 3, 0, 0, 0) := by decide +kernel
theorem op80_57 : rn_op 80 57 = some (.aload_n 0, 1, 0, 0, 0) := by decide +kernel
theorem op80_58 : rn_op 80 58 = some (.getfield 42, 3, 4, 5, 3) := by decide +kernel
theorem op80_61 : rn_op 80 61 = some (.iload_n 2, 1, 0, 0, 0) := by decide +kernel
theorem op80_62 : rn_op 80 62 = some (.iaload, 1, 0, 0, 0) := by decide +kernel
theorem op80_63 : rn_op 80 63 = some (.ifCond .le 7, 3, 0, 0, 0) := by decide +kernel
theorem op80_66 : rn_op 80 66 = some (.iconst 1, 1, 0, 0, 0) := by decide +kernel
theorem op80_67 : rn_op 80 67 = some (.goto 4, 3, 0, 0, 0) := by decide +kernel
theorem op80_70 : rn_op 80 70 = some (.iconst 0, 1, 0, 0, 0) := by decide +kernel
theorem op80_71 : rn_op 80 71 = some (.ireturn, 1, 0, 0, 0) := by decide +kernel
def se_mayLead (n : Nat) (a1 : Int32) (a2 : Int32) (a3 : Int32) (m : rn_Mem) : Option (Int32 × rn_Mem) :=
  if a1 = 0 then
    if (m.1 52 8) < 0 then
      if (m.1 52 6) = 1 then
        if a3 < 0 then
          some (1, m)
        else
          if a2 = a3 then
            some (1, m)
          else
            some (0, m)
      else
        if a1 = 0 then
          some (1, m)
        else
          if rn_in a2 4 = true then
            if 0 < (m.1 64 a2.toNatClampNeg) then
              some (1, m)
            else
              some (0, m)
          else none
    else
      if a2 = (m.1 52 8) then
        if (m.1 52 6) = 1 then
          if a3 < 0 then
            some (1, m)
          else
            if a2 = a3 then
              some (1, m)
            else
              some (0, m)
        else
          if a1 = 0 then
            some (1, m)
          else
            if rn_in a2 4 = true then
              if 0 < (m.1 64 a2.toNatClampNeg) then
                some (1, m)
              else
                some (0, m)
            else none
      else
        some (0, m)
  else
    if (m.1 52 6) = 1 then
      if a3 < 0 then
        some (1, m)
      else
        if a2 = a3 then
          some (1, m)
        else
          some (0, m)
    else
      if a1 = 0 then
        some (1, m)
      else
        if rn_in a2 4 = true then
          if 0 < (m.1 64 a2.toNatClampNeg) then
            some (1, m)
          else
            some (0, m)
        else none
set_option maxHeartbeats 4000000 in
set_option maxRecDepth 20000 in
theorem se_mayLead_ok (xs : List Int32) {d : Nat} (hd : 0 ≤ d) {n : Nat} {a1 : Int32} {a2 : Int32} {a3 : Int32} {m mO : rn_Mem} {rO : Int32} (h : se_mayLead n a1 a2 a3 m = some (rO, mO)) : rn_R xs d 80 0 (rn_ent 4 [.ref 51, .int a1, .int a2, .int a3]) [] (rn_SH, m) (some (.int rO)) (rn_SH, mO) := by
  unfold se_mayLead at h
  show rn_R xs d 80 0 [some (.ref 51), some (.int a1), some (.int a2), some (.int a3)] [] (rn_SH, m) (some (.int rO)) (rn_SH, mO)
  refine rx_p (L2 := [some (.ref 51), some (.int a1), some (.int a2), some (.int a3)]) (S2 := [.int a1]) (pc2 := 1) op80_0 rfl rfl ?_
  refine ry_if_ne (tgt := 27) (pc2 := 4) op80_1 (by decide) (by decide) rfl (fun b1 => ?_) (fun b1 => ?_)
  · have h := (if_pos b1).symm.trans h
    refine rx_p (L2 := [some (.ref 51), some (.int a1), some (.int a2), some (.int a3)]) (S2 := [.ref 51]) (pc2 := 5) op80_4 rfl rfl ?_
    refine rx_gf (v := .ref 52) (pc2 := 8) op80_5 sp_51 rfl rfl rfl ?_
    refine rx_gf (v := .int (m.1 52 8)) (pc2 := 11) op80_8 sp_52 rfl rfl rfl ?_
    refine ry_if_lt (tgt := 27) (pc2 := 14) op80_11 (by decide) (by decide) rfl (fun b4 => ?_) (fun b4 => ?_)
    · have h := (if_pos b4).symm.trans h
      refine rx_p (L2 := [some (.ref 51), some (.int a1), some (.int a2), some (.int a3)]) (S2 := [.ref 51]) (pc2 := 28) op80_27 rfl rfl ?_
      refine rx_gf (v := .ref 52) (pc2 := 31) op80_28 sp_51 rfl rfl rfl ?_
      refine rx_gf (v := .int (m.1 52 6)) (pc2 := 34) op80_31 sp_52 rfl rfl rfl ?_
      refine rx_ic (v := 1) (pc2 := 35) op80_34 (by decide) rfl ?_
      refine ry_ic_ne (tgt := 53) (pc2 := 38) op80_35 (by decide) (by decide) rfl (fun b6 => ?_) (fun b6 => ?_)
      · have h := (if_pos b6).symm.trans h
        refine rx_p (L2 := [some (.ref 51), some (.int a1), some (.int a2), some (.int a3)]) (S2 := [.int a3]) (pc2 := 39) op80_38 rfl rfl ?_
        refine ry_if_lt (tgt := 47) (pc2 := 42) op80_39 (by decide) (by decide) rfl (fun b7 => ?_) (fun b7 => ?_)
        · have h := (if_pos b7).symm.trans h
          refine rx_ic (v := 1) (pc2 := 48) op80_47 (by decide) rfl ?_
          refine ry_go (tgt := 52) op80_48 (by decide) (by decide) ?_
          obtain ⟨rfl, rfl⟩ := rq_ret h
          exact ry_rz (x := 1) op80_52 ms_80 rfl (by decide)
        · have h := (if_neg b7).symm.trans h
          refine rx_p (L2 := [some (.ref 51), some (.int a1), some (.int a2), some (.int a3)]) (S2 := [.int a2]) (pc2 := 43) op80_42 rfl rfl ?_
          refine rx_p (L2 := [some (.ref 51), some (.int a1), some (.int a2), some (.int a3)]) (S2 := [.int a3, .int a2]) (pc2 := 44) op80_43 rfl rfl ?_
          refine ry_ic_ne (tgt := 51) (pc2 := 47) op80_44 (by decide) (by decide) rfl (fun b8 => ?_) (fun b8 => ?_)
          · have h := (if_pos b8).symm.trans h
            refine rx_ic (v := 1) (pc2 := 48) op80_47 (by decide) rfl ?_
            refine ry_go (tgt := 52) op80_48 (by decide) (by decide) ?_
            obtain ⟨rfl, rfl⟩ := rq_ret h
            exact ry_rz (x := 1) op80_52 ms_80 rfl (by decide)
          · have h := (if_neg b8).symm.trans h
            refine rx_ic (v := 0) (pc2 := 52) op80_51 (by decide) rfl ?_
            obtain ⟨rfl, rfl⟩ := rq_ret h
            exact ry_rz (x := 0) op80_52 ms_80 rfl (by decide)
      · have h := (if_neg b6).symm.trans h
        refine rx_p (L2 := [some (.ref 51), some (.int a1), some (.int a2), some (.int a3)]) (S2 := [.int a1]) (pc2 := 54) op80_53 rfl rfl ?_
        refine ry_if_eq (tgt := 66) (pc2 := 57) op80_54 (by decide) (by decide) rfl (fun b9 => ?_) (fun b9 => ?_)
        · have h := (if_pos b9).symm.trans h
          refine rx_ic (v := 1) (pc2 := 67) op80_66 (by decide) rfl ?_
          refine ry_go (tgt := 71) op80_67 (by decide) (by decide) ?_
          obtain ⟨rfl, rfl⟩ := rq_ret h
          exact ry_rz (x := 1) op80_71 ms_80 rfl (by decide)
        · have h := (if_neg b9).symm.trans h
          refine rx_p (L2 := [some (.ref 51), some (.int a1), some (.int a2), some (.int a3)]) (S2 := [.ref 51]) (pc2 := 58) op80_57 rfl rfl ?_
          refine rx_gf (v := .ref 64) (pc2 := 61) op80_58 sp_51 rfl rfl rfl ?_
          refine rx_p (L2 := [some (.ref 51), some (.int a1), some (.int a2), some (.int a3)]) (S2 := [.int a2, .ref 64]) (pc2 := 62) op80_61 rfl rfl ?_
          obtain ⟨k10, h⟩ := rq_chk h
          refine rx_ia (pc2 := 63) op80_62 (rn_shlt sp_64) sp_64 k10 rfl rfl ?_
          refine ry_if_le (tgt := 70) (pc2 := 66) op80_63 (by decide) (by decide) rfl (fun b11 => ?_) (fun b11 => ?_)
          · have h := (if_pos b11).symm.trans h
            refine rx_ic (v := 1) (pc2 := 67) op80_66 (by decide) rfl ?_
            refine ry_go (tgt := 71) op80_67 (by decide) (by decide) ?_
            obtain ⟨rfl, rfl⟩ := rq_ret h
            exact ry_rz (x := 1) op80_71 ms_80 rfl (by decide)
          · have h := (if_neg b11).symm.trans h
            refine rx_ic (v := 0) (pc2 := 71) op80_70 (by decide) rfl ?_
            obtain ⟨rfl, rfl⟩ := rq_ret h
            exact ry_rz (x := 0) op80_71 ms_80 rfl (by decide)
    · have h := (if_neg b4).symm.trans h
      refine rx_p (L2 := [some (.ref 51), some (.int a1), some (.int a2), some (.int a3)]) (S2 := [.int a2]) (pc2 := 15) op80_14 rfl rfl ?_
      refine rx_p (L2 := [some (.ref 51), some (.int a1), some (.int a2), some (.int a3)]) (S2 := [.ref 51, .int a2]) (pc2 := 16) op80_15 rfl rfl ?_
      refine rx_gf (v := .ref 52) (pc2 := 19) op80_16 sp_51 rfl rfl rfl ?_
      refine rx_gf (v := .int (m.1 52 8)) (pc2 := 22) op80_19 sp_52 rfl rfl rfl ?_
      refine ry_ic_eq (tgt := 27) (pc2 := 25) op80_22 (by decide) (by decide) rfl (fun b12 => ?_) (fun b12 => ?_)
      · have h := (if_pos b12).symm.trans h
        refine rx_p (L2 := [some (.ref 51), some (.int a1), some (.int a2), some (.int a3)]) (S2 := [.ref 51]) (pc2 := 28) op80_27 rfl rfl ?_
        refine rx_gf (v := .ref 52) (pc2 := 31) op80_28 sp_51 rfl rfl rfl ?_
        refine rx_gf (v := .int (m.1 52 6)) (pc2 := 34) op80_31 sp_52 rfl rfl rfl ?_
        refine rx_ic (v := 1) (pc2 := 35) op80_34 (by decide) rfl ?_
        refine ry_ic_ne (tgt := 53) (pc2 := 38) op80_35 (by decide) (by decide) rfl (fun b13 => ?_) (fun b13 => ?_)
        · have h := (if_pos b13).symm.trans h
          refine rx_p (L2 := [some (.ref 51), some (.int a1), some (.int a2), some (.int a3)]) (S2 := [.int a3]) (pc2 := 39) op80_38 rfl rfl ?_
          refine ry_if_lt (tgt := 47) (pc2 := 42) op80_39 (by decide) (by decide) rfl (fun b14 => ?_) (fun b14 => ?_)
          · have h := (if_pos b14).symm.trans h
            refine rx_ic (v := 1) (pc2 := 48) op80_47 (by decide) rfl ?_
            refine ry_go (tgt := 52) op80_48 (by decide) (by decide) ?_
            obtain ⟨rfl, rfl⟩ := rq_ret h
            exact ry_rz (x := 1) op80_52 ms_80 rfl (by decide)
          · have h := (if_neg b14).symm.trans h
            refine rx_p (L2 := [some (.ref 51), some (.int a1), some (.int a2), some (.int a3)]) (S2 := [.int a2]) (pc2 := 43) op80_42 rfl rfl ?_
            refine rx_p (L2 := [some (.ref 51), some (.int a1), some (.int a2), some (.int a3)]) (S2 := [.int a3, .int a2]) (pc2 := 44) op80_43 rfl rfl ?_
            refine ry_ic_ne (tgt := 51) (pc2 := 47) op80_44 (by decide) (by decide) rfl (fun b15 => ?_) (fun b15 => ?_)
            · have h := (if_pos b15).symm.trans h
              refine rx_ic (v := 1) (pc2 := 48) op80_47 (by decide) rfl ?_
              refine ry_go (tgt := 52) op80_48 (by decide) (by decide) ?_
              obtain ⟨rfl, rfl⟩ := rq_ret h
              exact ry_rz (x := 1) op80_52 ms_80 rfl (by decide)
            · have h := (if_neg b15).symm.trans h
              refine rx_ic (v := 0) (pc2 := 52) op80_51 (by decide) rfl ?_
              obtain ⟨rfl, rfl⟩ := rq_ret h
              exact ry_rz (x := 0) op80_52 ms_80 rfl (by decide)
        · have h := (if_neg b13).symm.trans h
          refine rx_p (L2 := [some (.ref 51), some (.int a1), some (.int a2), some (.int a3)]) (S2 := [.int a1]) (pc2 := 54) op80_53 rfl rfl ?_
          refine ry_if_eq (tgt := 66) (pc2 := 57) op80_54 (by decide) (by decide) rfl (fun b16 => ?_) (fun b16 => ?_)
          · have h := (if_pos b16).symm.trans h
            refine rx_ic (v := 1) (pc2 := 67) op80_66 (by decide) rfl ?_
            refine ry_go (tgt := 71) op80_67 (by decide) (by decide) ?_
            obtain ⟨rfl, rfl⟩ := rq_ret h
            exact ry_rz (x := 1) op80_71 ms_80 rfl (by decide)
          · have h := (if_neg b16).symm.trans h
            refine rx_p (L2 := [some (.ref 51), some (.int a1), some (.int a2), some (.int a3)]) (S2 := [.ref 51]) (pc2 := 58) op80_57 rfl rfl ?_
            refine rx_gf (v := .ref 64) (pc2 := 61) op80_58 sp_51 rfl rfl rfl ?_
            refine rx_p (L2 := [some (.ref 51), some (.int a1), some (.int a2), some (.int a3)]) (S2 := [.int a2, .ref 64]) (pc2 := 62) op80_61 rfl rfl ?_
            obtain ⟨k17, h⟩ := rq_chk h
            refine rx_ia (pc2 := 63) op80_62 (rn_shlt sp_64) sp_64 k17 rfl rfl ?_
            refine ry_if_le (tgt := 70) (pc2 := 66) op80_63 (by decide) (by decide) rfl (fun b18 => ?_) (fun b18 => ?_)
            · have h := (if_pos b18).symm.trans h
              refine rx_ic (v := 1) (pc2 := 67) op80_66 (by decide) rfl ?_
              refine ry_go (tgt := 71) op80_67 (by decide) (by decide) ?_
              obtain ⟨rfl, rfl⟩ := rq_ret h
              exact ry_rz (x := 1) op80_71 ms_80 rfl (by decide)
            · have h := (if_neg b18).symm.trans h
              refine rx_ic (v := 0) (pc2 := 71) op80_70 (by decide) rfl ?_
              obtain ⟨rfl, rfl⟩ := rq_ret h
              exact ry_rz (x := 0) op80_71 ms_80 rfl (by decide)
      · have h := (if_neg b12).symm.trans h
        refine rx_ic (v := 0) (pc2 := 26) op80_25 (by decide) rfl ?_
        obtain ⟨rfl, rfl⟩ := rq_ret h
        exact ry_rz (x := 0) op80_26 ms_80 rfl (by decide)
  · have h := (if_neg b1).symm.trans h
    refine rx_p (L2 := [some (.ref 51), some (.int a1), some (.int a2), some (.int a3)]) (S2 := [.ref 51]) (pc2 := 28) op80_27 rfl rfl ?_
    refine rx_gf (v := .ref 52) (pc2 := 31) op80_28 sp_51 rfl rfl rfl ?_
    refine rx_gf (v := .int (m.1 52 6)) (pc2 := 34) op80_31 sp_52 rfl rfl rfl ?_
    refine rx_ic (v := 1) (pc2 := 35) op80_34 (by decide) rfl ?_
    refine ry_ic_ne (tgt := 53) (pc2 := 38) op80_35 (by decide) (by decide) rfl (fun b19 => ?_) (fun b19 => ?_)
    · have h := (if_pos b19).symm.trans h
      refine rx_p (L2 := [some (.ref 51), some (.int a1), some (.int a2), some (.int a3)]) (S2 := [.int a3]) (pc2 := 39) op80_38 rfl rfl ?_
      refine ry_if_lt (tgt := 47) (pc2 := 42) op80_39 (by decide) (by decide) rfl (fun b20 => ?_) (fun b20 => ?_)
      · have h := (if_pos b20).symm.trans h
        refine rx_ic (v := 1) (pc2 := 48) op80_47 (by decide) rfl ?_
        refine ry_go (tgt := 52) op80_48 (by decide) (by decide) ?_
        obtain ⟨rfl, rfl⟩ := rq_ret h
        exact ry_rz (x := 1) op80_52 ms_80 rfl (by decide)
      · have h := (if_neg b20).symm.trans h
        refine rx_p (L2 := [some (.ref 51), some (.int a1), some (.int a2), some (.int a3)]) (S2 := [.int a2]) (pc2 := 43) op80_42 rfl rfl ?_
        refine rx_p (L2 := [some (.ref 51), some (.int a1), some (.int a2), some (.int a3)]) (S2 := [.int a3, .int a2]) (pc2 := 44) op80_43 rfl rfl ?_
        refine ry_ic_ne (tgt := 51) (pc2 := 47) op80_44 (by decide) (by decide) rfl (fun b21 => ?_) (fun b21 => ?_)
        · have h := (if_pos b21).symm.trans h
          refine rx_ic (v := 1) (pc2 := 48) op80_47 (by decide) rfl ?_
          refine ry_go (tgt := 52) op80_48 (by decide) (by decide) ?_
          obtain ⟨rfl, rfl⟩ := rq_ret h
          exact ry_rz (x := 1) op80_52 ms_80 rfl (by decide)
        · have h := (if_neg b21).symm.trans h
          refine rx_ic (v := 0) (pc2 := 52) op80_51 (by decide) rfl ?_
          obtain ⟨rfl, rfl⟩ := rq_ret h
          exact ry_rz (x := 0) op80_52 ms_80 rfl (by decide)
    · have h := (if_neg b19).symm.trans h
      refine rx_p (L2 := [some (.ref 51), some (.int a1), some (.int a2), some (.int a3)]) (S2 := [.int a1]) (pc2 := 54) op80_53 rfl rfl ?_
      refine ry_if_eq (tgt := 66) (pc2 := 57) op80_54 (by decide) (by decide) rfl (fun b22 => ?_) (fun b22 => ?_)
      · have h := (if_pos b22).symm.trans h
        refine rx_ic (v := 1) (pc2 := 67) op80_66 (by decide) rfl ?_
        refine ry_go (tgt := 71) op80_67 (by decide) (by decide) ?_
        obtain ⟨rfl, rfl⟩ := rq_ret h
        exact ry_rz (x := 1) op80_71 ms_80 rfl (by decide)
      · have h := (if_neg b22).symm.trans h
        refine rx_p (L2 := [some (.ref 51), some (.int a1), some (.int a2), some (.int a3)]) (S2 := [.ref 51]) (pc2 := 58) op80_57 rfl rfl ?_
        refine rx_gf (v := .ref 64) (pc2 := 61) op80_58 sp_51 rfl rfl rfl ?_
        refine rx_p (L2 := [some (.ref 51), some (.int a1), some (.int a2), some (.int a3)]) (S2 := [.int a2, .ref 64]) (pc2 := 62) op80_61 rfl rfl ?_
        obtain ⟨k23, h⟩ := rq_chk h
        refine rx_ia (pc2 := 63) op80_62 (rn_shlt sp_64) sp_64 k23 rfl rfl ?_
        refine ry_if_le (tgt := 70) (pc2 := 66) op80_63 (by decide) (by decide) rfl (fun b24 => ?_) (fun b24 => ?_)
        · have h := (if_pos b24).symm.trans h
          refine rx_ic (v := 1) (pc2 := 67) op80_66 (by decide) rfl ?_
          refine ry_go (tgt := 71) op80_67 (by decide) (by decide) ?_
          obtain ⟨rfl, rfl⟩ := rq_ret h
          exact ry_rz (x := 1) op80_71 ms_80 rfl (by decide)
        · have h := (if_neg b24).symm.trans h
          refine rx_ic (v := 0) (pc2 := 71) op80_70 (by decide) rfl ?_
          obtain ⟨rfl, rfl⟩ := rq_ret h
          exact ry_rz (x := 0) op80_71 ms_80 rfl (by decide)
/-! ja_bitCount -/
theorem op81_0 : rn_op 81 0 = some (.iload_n 0, 1, 0, 0, 0) := by decide +kernel
theorem op81_1 : rn_op 81 1 = some (.iload_n 0, 1, 0, 0, 0) := by decide +kernel
theorem op81_2 : rn_op 81 2 = some (.iconst 1, 1, 0, 0, 0) := by decide +kernel
theorem op81_3 : rn_op 81 3 = some (.iushr, 1, 0, 0, 0) := by decide +kernel
theorem op81_4 : rn_op 81 4 = some (.ldc_w 265, 3, 1431655765, 0, 0) := by decide +kernel
theorem op81_7 : rn_op 81 7 = some (.iand, 1, 0, 0, 0) := by decide +kernel
theorem op81_8 : rn_op 81 8 = some (.isub, 1, 0, 0, 0) := by decide +kernel
theorem op81_9 : rn_op 81 9 = some (.istore_n 0, 1, 0, 0, 0) := by decide +kernel
theorem op81_10 : rn_op 81 10 = some (.iload_n 0, 1, 0, 0, 0) := by decide +kernel
theorem op81_11 : rn_op 81 11 = some (.ldc_w 266, 3, 858993459, 0, 0) := by decide +kernel
theorem op81_14 : rn_op 81 14 = some (.iand, 1, 0, 0, 0) := by decide +kernel
theorem op81_15 : rn_op 81 15 = some (.iload_n 0, 1, 0, 0, 0) := by decide +kernel
theorem op81_16 : rn_op 81 16 = some (.iconst 2, 1, 0, 0, 0) := by decide +kernel
theorem op81_17 : rn_op 81 17 = some (.iushr, 1, 0, 0, 0) := by decide +kernel
theorem op81_18 : rn_op 81 18 = some (.ldc_w 266, 3, 858993459, 0, 0) := by decide +kernel
theorem op81_21 : rn_op 81 21 = some (.iand, 1, 0, 0, 0) := by decide +kernel
theorem op81_22 : rn_op 81 22 = some (.iadd, 1, 0, 0, 0) := by decide +kernel
theorem op81_23 : rn_op 81 23 = some (.istore_n 0, 1, 0, 0, 0) := by decide +kernel
theorem op81_24 : rn_op 81 24 = some (.iload_n 0, 1, 0, 0, 0) := by decide +kernel
theorem op81_25 : rn_op 81 25 = some (.iload_n 0, 1, 0, 0, 0) := by decide +kernel
theorem op81_26 : rn_op 81 26 = some (.iconst 4, 1, 0, 0, 0) := by decide +kernel
theorem op81_27 : rn_op 81 27 = some (.iushr, 1, 0, 0, 0) := by decide +kernel
theorem op81_28 : rn_op 81 28 = some (.iadd, 1, 0, 0, 0) := by decide +kernel
theorem op81_29 : rn_op 81 29 = some (.ldc_w 267, 3, 252645135, 0, 0) := by decide +kernel
theorem op81_32 : rn_op 81 32 = some (.iand, 1, 0, 0, 0) := by decide +kernel
theorem op81_33 : rn_op 81 33 = some (.istore_n 0, 1, 0, 0, 0) := by decide +kernel
theorem op81_34 : rn_op 81 34 = some (.iload_n 0, 1, 0, 0, 0) := by decide +kernel
theorem op81_35 : rn_op 81 35 = some (.iload_n 0, 1, 0, 0, 0) := by decide +kernel
theorem op81_36 : rn_op 81 36 = some (.bipush 8, 2, 0, 0, 0) := by decide +kernel
theorem op81_38 : rn_op 81 38 = some (.iushr, 1, 0, 0, 0) := by decide +kernel
theorem op81_39 : rn_op 81 39 = some (.iadd, 1, 0, 0, 0) := by decide +kernel
theorem op81_40 : rn_op 81 40 = some (.istore_n 0, 1, 0, 0, 0) := by decide +kernel
theorem op81_41 : rn_op 81 41 = some (.iload_n 0, 1, 0, 0, 0) := by decide +kernel
theorem op81_42 : rn_op 81 42 = some (.iload_n 0, 1, 0, 0, 0) := by decide +kernel
theorem op81_43 : rn_op 81 43 = some (.bipush 16, 2, 0, 0, 0) := by decide +kernel
theorem op81_45 : rn_op 81 45 = some (.iushr, 1, 0, 0, 0) := by decide +kernel
theorem op81_46 : rn_op 81 46 = some (.iadd, 1, 0, 0, 0) := by decide +kernel
theorem op81_47 : rn_op 81 47 = some (.istore_n 0, 1, 0, 0, 0) := by decide +kernel
theorem op81_48 : rn_op 81 48 = some (.iload_n 0, 1, 0, 0, 0) := by decide +kernel
theorem op81_49 : rn_op 81 49 = some (.bipush 63, 2, 0, 0, 0) := by decide +kernel
theorem op81_51 : rn_op 81 51 = some (.iand, 1, 0, 0, 0) := by decide +kernel
theorem op81_52 : rn_op 81 52 = some (.ireturn, 1, 0, 0, 0) := by decide +kernel
def ja_bitCount (n : Nat) (a0 : Int32) (m : rn_Mem) : Option (Int32 × rn_Mem) :=
  (some (a0 - (((a0.toUInt32 >>> ((1 : Int32).toUInt32 &&& Int32.toUInt32 31)).toInt32) &&& 1431655765))).bind fun (x1 : Int32) =>
  (some ((x1 &&& 858993459) + (((x1.toUInt32 >>> ((2 : Int32).toUInt32 &&& Int32.toUInt32 31)).toInt32) &&& 858993459))).bind fun (x2 : Int32) =>
  (some ((x2 + ((x2.toUInt32 >>> ((4 : Int32).toUInt32 &&& Int32.toUInt32 31)).toInt32)) &&& 252645135)).bind fun (x3 : Int32) =>
  (some (x3 + ((x3.toUInt32 >>> ((8 : Int32).toUInt32 &&& Int32.toUInt32 31)).toInt32))).bind fun (x4 : Int32) =>
  (some (x4 + ((x4.toUInt32 >>> ((16 : Int32).toUInt32 &&& Int32.toUInt32 31)).toInt32))).bind fun (x5 : Int32) =>
  some (x5 &&& 63, m)
set_option maxHeartbeats 4000000 in
set_option maxRecDepth 20000 in
theorem ja_bitCount_ok (xs : List Int32) {d : Nat} (hd : 0 ≤ d) {n : Nat} {a0 : Int32} {m mO : rn_Mem} {rO : Int32} (h : ja_bitCount n a0 m = some (rO, mO)) : rn_R xs d 81 0 (rn_ent 1 [.int a0]) [] (rn_SH, m) (some (.int rO)) (rn_SH, mO) := by
  unfold ja_bitCount at h
  show rn_R xs d 81 0 [some (.int a0)] [] (rn_SH, m) (some (.int rO)) (rn_SH, mO)
  refine rx_p (L2 := [some (.int a0)]) (S2 := [.int a0]) (pc2 := 1) op81_0 rfl rfl ?_
  refine rx_p (L2 := [some (.int a0)]) (S2 := [.int a0, .int a0]) (pc2 := 2) op81_1 rfl rfl ?_
  refine rx_ic (v := 1) (pc2 := 3) op81_2 (by decide) rfl ?_
  refine rx_p (L2 := [some (.int a0)]) (S2 := [.int ((a0.toUInt32 >>> ((1 : Int32).toUInt32 &&& Int32.toUInt32 31)).toInt32), .int a0]) (pc2 := 4) op81_3 rfl rfl ?_
  refine rx_ldw (v := 1431655765) (pc2 := 7) op81_4 (by decide) rfl ?_
  refine rx_p (L2 := [some (.int a0)]) (S2 := [.int (((a0.toUInt32 >>> ((1 : Int32).toUInt32 &&& Int32.toUInt32 31)).toInt32) &&& 1431655765), .int a0]) (pc2 := 8) op81_7 rfl rfl ?_
  refine rx_p (L2 := [some (.int a0)]) (S2 := [.int (a0 - (((a0.toUInt32 >>> ((1 : Int32).toUInt32 &&& Int32.toUInt32 31)).toInt32) &&& 1431655765))]) (pc2 := 9) op81_8 rfl rfl ?_
  obtain ⟨x1, ex1, h⟩ := rq_bv h
  refine rx_s (v := x1) (L2 := [some (.int x1)]) (pc2 := 10) op81_9 ex1 rfl rfl ?_
  refine rx_p (L2 := [some (.int x1)]) (S2 := [.int x1]) (pc2 := 11) op81_10 rfl rfl ?_
  refine rx_ldw (v := 858993459) (pc2 := 14) op81_11 (by decide) rfl ?_
  refine rx_p (L2 := [some (.int x1)]) (S2 := [.int (x1 &&& 858993459)]) (pc2 := 15) op81_14 rfl rfl ?_
  refine rx_p (L2 := [some (.int x1)]) (S2 := [.int x1, .int (x1 &&& 858993459)]) (pc2 := 16) op81_15 rfl rfl ?_
  refine rx_ic (v := 2) (pc2 := 17) op81_16 (by decide) rfl ?_
  refine rx_p (L2 := [some (.int x1)]) (S2 := [.int ((x1.toUInt32 >>> ((2 : Int32).toUInt32 &&& Int32.toUInt32 31)).toInt32), .int (x1 &&& 858993459)]) (pc2 := 18) op81_17 rfl rfl ?_
  refine rx_ldw (v := 858993459) (pc2 := 21) op81_18 (by decide) rfl ?_
  refine rx_p (L2 := [some (.int x1)]) (S2 := [.int (((x1.toUInt32 >>> ((2 : Int32).toUInt32 &&& Int32.toUInt32 31)).toInt32) &&& 858993459), .int (x1 &&& 858993459)]) (pc2 := 22) op81_21 rfl rfl ?_
  refine rx_p (L2 := [some (.int x1)]) (S2 := [.int ((x1 &&& 858993459) + (((x1.toUInt32 >>> ((2 : Int32).toUInt32 &&& Int32.toUInt32 31)).toInt32) &&& 858993459))]) (pc2 := 23) op81_22 rfl rfl ?_
  obtain ⟨x2, ex2, h⟩ := rq_bv h
  refine rx_s (v := x2) (L2 := [some (.int x2)]) (pc2 := 24) op81_23 ex2 rfl rfl ?_
  refine rx_p (L2 := [some (.int x2)]) (S2 := [.int x2]) (pc2 := 25) op81_24 rfl rfl ?_
  refine rx_p (L2 := [some (.int x2)]) (S2 := [.int x2, .int x2]) (pc2 := 26) op81_25 rfl rfl ?_
  refine rx_ic (v := 4) (pc2 := 27) op81_26 (by decide) rfl ?_
  refine rx_p (L2 := [some (.int x2)]) (S2 := [.int ((x2.toUInt32 >>> ((4 : Int32).toUInt32 &&& Int32.toUInt32 31)).toInt32), .int x2]) (pc2 := 28) op81_27 rfl rfl ?_
  refine rx_p (L2 := [some (.int x2)]) (S2 := [.int (x2 + ((x2.toUInt32 >>> ((4 : Int32).toUInt32 &&& Int32.toUInt32 31)).toInt32))]) (pc2 := 29) op81_28 rfl rfl ?_
  refine rx_ldw (v := 252645135) (pc2 := 32) op81_29 (by decide) rfl ?_
  refine rx_p (L2 := [some (.int x2)]) (S2 := [.int ((x2 + ((x2.toUInt32 >>> ((4 : Int32).toUInt32 &&& Int32.toUInt32 31)).toInt32)) &&& 252645135)]) (pc2 := 33) op81_32 rfl rfl ?_
  obtain ⟨x3, ex3, h⟩ := rq_bv h
  refine rx_s (v := x3) (L2 := [some (.int x3)]) (pc2 := 34) op81_33 ex3 rfl rfl ?_
  refine rx_p (L2 := [some (.int x3)]) (S2 := [.int x3]) (pc2 := 35) op81_34 rfl rfl ?_
  refine rx_p (L2 := [some (.int x3)]) (S2 := [.int x3, .int x3]) (pc2 := 36) op81_35 rfl rfl ?_
  refine rx_bp (v := 8) (pc2 := 38) op81_36 (by decide) rfl ?_
  refine rx_p (L2 := [some (.int x3)]) (S2 := [.int ((x3.toUInt32 >>> ((8 : Int32).toUInt32 &&& Int32.toUInt32 31)).toInt32), .int x3]) (pc2 := 39) op81_38 rfl rfl ?_
  refine rx_p (L2 := [some (.int x3)]) (S2 := [.int (x3 + ((x3.toUInt32 >>> ((8 : Int32).toUInt32 &&& Int32.toUInt32 31)).toInt32))]) (pc2 := 40) op81_39 rfl rfl ?_
  obtain ⟨x4, ex4, h⟩ := rq_bv h
  refine rx_s (v := x4) (L2 := [some (.int x4)]) (pc2 := 41) op81_40 ex4 rfl rfl ?_
  refine rx_p (L2 := [some (.int x4)]) (S2 := [.int x4]) (pc2 := 42) op81_41 rfl rfl ?_
  refine rx_p (L2 := [some (.int x4)]) (S2 := [.int x4, .int x4]) (pc2 := 43) op81_42 rfl rfl ?_
  refine rx_bp (v := 16) (pc2 := 45) op81_43 (by decide) rfl ?_
  refine rx_p (L2 := [some (.int x4)]) (S2 := [.int ((x4.toUInt32 >>> ((16 : Int32).toUInt32 &&& Int32.toUInt32 31)).toInt32), .int x4]) (pc2 := 46) op81_45 rfl rfl ?_
  refine rx_p (L2 := [some (.int x4)]) (S2 := [.int (x4 + ((x4.toUInt32 >>> ((16 : Int32).toUInt32 &&& Int32.toUInt32 31)).toInt32))]) (pc2 := 47) op81_46 rfl rfl ?_
  obtain ⟨x5, ex5, h⟩ := rq_bv h
  refine rx_s (v := x5) (L2 := [some (.int x5)]) (pc2 := 48) op81_47 ex5 rfl rfl ?_
  refine rx_p (L2 := [some (.int x5)]) (S2 := [.int x5]) (pc2 := 49) op81_48 rfl rfl ?_
  refine rx_bp (v := 63) (pc2 := 51) op81_49 (by decide) rfl ?_
  refine rx_p (L2 := [some (.int x5)]) (S2 := [.int (x5 &&& 63)]) (pc2 := 52) op81_51 rfl rfl ?_
  obtain ⟨rfl, rfl⟩ := rq_ret h
  exact ry_ri op81_52 ms_81 rfl
/-! cl_againstTrick -/
theorem op82_0 : rn_op 82 0 = some (.iconst 0, 1, 0, 0, 0) := by decide +kernel
theorem op82_1 : rn_op 82 1 = some (.istore 6, 2, 0, 0, 0) := by decide +kernel
theorem op82_3 : rn_op 82 3 = some (.iconst 0, 1, 0, 0, 0) := by decide +kernel
theorem op82_4 : rn_op 82 4 = some (.istore 7, 2, 0, 0, 0) := by decide +kernel
theorem op82_6 : rn_op 82 6 = some (.iload 7, 2, 0, 0, 0) := by decide +kernel
theorem op82_8 : rn_op 82 8 = some (.aload_n 0, 1, 0, 0, 0) := by decide +kernel
theorem op82_9 : rn_op 82 9 = some (.getfield 37, 3, 0, 0, 0) := by decide +kernel
theorem op82_12 : rn_op 82 12 = some (.if_icmp .ge 177, 3, 0, 0, 0) := by decide +kernel
theorem op82_15 : rn_op 82 15 = some (.iconst 0, 1, 0, 0, 0) := by decide +kernel
theorem op82_16 : rn_op 82 16 = some (.istore 8, 2, 0, 0, 0) := by decide +kernel
theorem op82_18 : rn_op 82 18 = some (.aload_n 0, 1, 0, 0, 0) := by decide +kernel
theorem op82_19 : rn_op 82 19 = some (.getfield 9, 3, 0, 1, 3) := by decide +kernel
theorem op82_22 : rn_op 82 22 = some (.iload 7, 2, 0, 0, 0) := by decide +kernel
theorem op82_24 : rn_op 82 24 = some (.iaload, 1, 0, 0, 0) := by decide +kernel
theorem op82_25 : rn_op 82 25 = some (.tableswitch 144 1 3 #[27, 59, 98], 27, 0, 0, 0) := by decide +kernel
theorem op82_52 : rn_op 82 52 = some (.aload_n 0, 1, 0, 0, 0) := by decide +kernel
theorem op82_53 : rn_op 82 53 = some (.getfield 18, 3, 0, 3, 3) := by decide +kernel
theorem op82_56 : rn_op 82 56 = some (.iload 7, 2, 0, 0, 0) := by decide +kernel
theorem op82_58 : rn_op 82 58 = some (.iaload, 1, 0, 0, 0) := by decide +kernel
theorem op82_59 : rn_op 82 59 = some (.iload_n 1, 1, 0, 0, 0) := by decide +kernel
theorem op82_60 : rn_op 82 60 = some (.if_icmp .ne 18, 3, 0, 0, 0) := by decide +kernel
theorem op82_63 : rn_op 82 63 = some (.aload_n 0, 1, 0, 0, 0) := by decide +kernel
theorem op82_64 : rn_op 82 64 = some (.getfield 15, 3, 0, 2, 3) := by decide +kernel
theorem op82_67 : rn_op 82 67 = some (.iload 7, 2, 0, 0, 0) := by decide +kernel
theorem op82_69 : rn_op 82 69 = some (.iaload, 1, 0, 0, 0) := by decide +kernel
theorem op82_70 : rn_op 82 70 = some (.iload_n 2, 1, 0, 0, 0) := by decide +kernel
theorem op82_71 : rn_op 82 71 = some (.if_icmp .eq 7, 3, 0, 0, 0) := by decide +kernel
theorem op82_74 : rn_op 82 74 = some (.iconst 1, 1, 0, 0, 0) := by decide +kernel
theorem op82_75 : rn_op 82 75 = some (.goto 4, 3, 0, 0, 0) := by decide +kernel
theorem op82_78 : rn_op 82 78 = some (.iconst 0, 1, 0, 0, 0) := by decide +kernel
theorem op82_79 : rn_op 82 79 = some (.istore 8, 2, 0, 0, 0) := by decide +kernel
theorem op82_81 : rn_op 82 81 = some (.goto 88, 3, 0, 0, 0) := by decide +kernel
theorem op82_84 : rn_op 82 84 = some (.iload_n 3, 1, 0, 0, 0) := by decide +kernel
theorem op82_85 : rn_op 82 85 = some (.aload_n 0, 1, 0, 0, 0) := by decide +kernel
theorem op82_86 : rn_op 82 86 = some (.getfield 15, 3, 0, 2, 3) := by decide +kernel
theorem op82_89 : rn_op 82 89 = some (.iload 7, 2, 0, 0, 0) := by decide +kernel
theorem op82_91 : rn_op 82 91 = some (.iaload, 1, 0, 0, 0) := by decide +kernel
theorem op82_92 : rn_op 82 92 = some (.ishr, 1, 0, 0, 0) := by decide +kernel
theorem op82_93 : rn_op 82 93 = some (.iconst 1, 1, 0, 0, 0) := by decide +kernel
theorem op82_94 : rn_op 82 94 = some (.iand, 1, 0, 0, 0) := by decide +kernel
theorem op82_95 : rn_op 82 95 = some (.ifCond .eq 22, 3, 0, 0, 0) := by decide +kernel
theorem op82_98 : rn_op 82 98 = some (.iload 4, 2, 0, 0, 0) := by decide +kernel
theorem op82_100 : rn_op 82 100 = some (.aload_n 0, 1, 0, 0, 0) := by decide +kernel
theorem op82_101 : rn_op 82 101 = some (.getfield 18, 3, 0, 3, 3) := by decide +kernel
theorem op82_104 : rn_op 82 104 = some (.iload 7, 2, 0, 0, 0) := by decide +kernel
theorem op82_106 : rn_op 82 106 = some (.iaload, 1, 0, 0, 0) := by decide +kernel
theorem op82_107 : rn_op 82 107 = some (.ishr, 1, 0, 0, 0) := by decide +kernel
theorem op82_108 : rn_op 82 108 = some (.iconst 1, 1, 0, 0, 0) := by decide +kernel
theorem op82_109 : rn_op 82 109 = some (.iand, 1, 0, 0, 0) := by decide +kernel
theorem op82_110 : rn_op 82 110 = some (.ifCond .ne 7, 3, 0, 0, 0) := by decide +kernel
theorem op82_113 : rn_op 82 113 = some (.iconst 1, 1, 0, 0, 0) := by decide +kernel
theorem op82_114 : rn_op 82 114 = some (.goto 4, 3, 0, 0, 0) := by decide +kernel
theorem op82_117 : rn_op 82 117 = some (.iconst 0, 1, 0, 0, 0) := by decide +kernel
theorem op82_118 : rn_op 82 118 = some (.istore 8, 2, 0, 0, 0) := by decide +kernel
theorem op82_120 : rn_op 82 120 = some (.goto 49, 3, 0, 0, 0) := by decide +kernel
theorem op82_123 : rn_op 82 123 = some (.aload_n 0, 1, 0, 0, 0) := by decide +kernel
theorem op82_124 : rn_op 82 124 = some (.getfield 21, 3, 0, 4, 3) := by decide +kernel
theorem op82_127 : rn_op 82 127 = some (.iload 7, 2, 0, 0, 0) := by decide +kernel
theorem op82_129 : rn_op 82 129 = some (.iaload, 1, 0, 0, 0) := by decide +kernel
theorem op82_130 : rn_op 82 130 = some (.iload_n 1, 1, 0, 0, 0) := by decide +kernel
theorem op82_131 : rn_op 82 131 = some (.if_icmp .ne 32, 3, 0, 0, 0) := by decide +kernel
theorem op82_134 : rn_op 82 134 = some (.iload 5, 2, 0, 0, 0) := by decide +kernel
theorem op82_136 : rn_op 82 136 = some (.iconst 4, 1, 0, 0, 0) := by decide +kernel
theorem op82_137 : rn_op 82 137 = some (.aload_n 0, 1, 0, 0, 0) := by decide +kernel
theorem op82_138 : rn_op 82 138 = some (.getfield 15, 3, 0, 2, 3) := by decide +kernel
theorem op82_141 : rn_op 82 141 = some (.iload 7, 2, 0, 0, 0) := by decide +kernel
theorem op82_143 : rn_op 82 143 = some (.iaload, 1, 0, 0, 0) := by decide +kernel
theorem op82_144 : rn_op 82 144 = some (.imul, 1, 0, 0, 0) := by decide +kernel
theorem op82_145 : rn_op 82 145 = some (.aload_n 0, 1, 0, 0, 0) := by decide +kernel
theorem op82_146 : rn_op 82 146 = some (.getfield 18, 3, 0, 3, 3) := by decide +kernel
theorem op82_149 : rn_op 82 149 = some (.iload 7, 2, 0, 0, 0) := by decide +kernel
theorem op82_151 : rn_op 82 151 = some (.iaload, 1, 0, 0, 0) := by decide +kernel
theorem op82_152 : rn_op 82 152 = some (.iadd, 1, 0, 0, 0) := by decide +kernel
theorem op82_153 : rn_op 82 153 = some (.ishr, 1, 0, 0, 0) := by decide +kernel
theorem op82_154 : rn_op 82 154 = some (.iconst 1, 1, 0, 0, 0) := by decide +kernel
theorem op82_155 : rn_op 82 155 = some (.iand, 1, 0, 0, 0) := by decide +kernel
theorem op82_156 : rn_op 82 156 = some (.ifCond .eq 7, 3, 0, 0, 0) := by decide +kernel
theorem op82_159 : rn_op 82 159 = some (.iconst 1, 1, 0, 0, 0) := by decide +kernel
theorem op82_160 : rn_op 82 160 = some (.goto 4, 3, 0, 0, 0) := by decide +kernel
theorem op82_163 : rn_op 82 163 = some (.iconst 0, 1, 0, 0, 0) := by decide +kernel
theorem op82_164 : rn_op 82 164 = some (.istore 8, 2, 0, 0, 0) := by decide +kernel
theorem op82_166 : rn_op 82 166 = some (.goto 3, 3, 0, 0, 0) := by decide +kernel
theorem op82_169 : rn_op 82 169 = some (.iload 8, 2, 0, 0, 0) := by decide +kernel
theorem op82_171 : rn_op 82 171 = some (.ifCond .eq 12, 3, 0, 0, 0) := by decide +kernel
theorem op82_174 : rn_op 82 174 = some (.iload 6, 2, 0, 0, 0) := by decide +kernel
theorem op82_176 : rn_op 82 176 = some (.iconst 1, 1, 0, 0, 0) := by decide +kernel
theorem op82_177 : rn_op 82 177 = some (.iload 7, 2, 0, 0, 0) := by decide +kernel
theorem op82_179 : rn_op 82 179 = some (.ishl, 1, 0, 0, 0) := by decide +kernel
theorem op82_180 : rn_op 82 180 = some (.ior, 1, 0, 0, 0) := by decide +kernel
theorem op82_181 : rn_op 82 181 = some (.istore 6, 2, 0, 0, 0) := by decide +kernel
theorem op82_183 : rn_op 82 183 = some (.iinc 7 1, 3, 0, 0, 0) := by decide +kernel
theorem op82_186 : rn_op 82 186 = some (.goto (-180), 3, 0, 0, 0) := by decide +kernel
theorem op82_189 : rn_op 82 189 = some (.iload 6, 2, 0, 0, 0) := by decide +kernel
theorem op82_191 : rn_op 82 191 = some (.ireturn, 1, 0, 0, 0) := by decide +kernel
def cl_againstTrick_l6 (q0 : Nat) (a1 : Int32) (a2 : Int32) (a3 : Int32) (a4 : Int32) (a5 : Int32) : Nat → Int32 → Int32 → rn_Mem → Option (Int32 × rn_Mem)
  | 0, _, _, _ => none
  | n + 1, a6, a7, m =>
    if a7 < (m.1 q0 0) then
      if rn_in a7 6 = true then
        (show Option (Int32) from
          if (m.1 (q0 + 1) a7.toNatClampNeg) = 1 then
            if rn_in a7 6 = true then
              (show Option (Int32) from
                if (m.1 (q0 + 3) a7.toNatClampNeg) = a1 then
                  if rn_in a7 6 = true then
                    if (m.1 (q0 + 2) a7.toNatClampNeg) = a2 then
                      some (0)
                    else
                      some (1)
                  else none
                else
                  some (0)).bind fun x11 =>
              some (x11)
            else none
          else if (m.1 (q0 + 1) a7.toNatClampNeg) = 2 then
            if rn_in a7 6 = true then
              (show Option (Int32) from
                if ((a3 >>> ((m.1 (q0 + 2) a7.toNatClampNeg) &&& 31)) &&& 1) = 0 then
                  some (0)
                else
                  if rn_in a7 6 = true then
                    if ((a4 >>> ((m.1 (q0 + 3) a7.toNatClampNeg) &&& 31)) &&& 1) = 0 then
                      some (1)
                    else
                      some (0)
                  else none).bind fun x18 =>
              some (x18)
            else none
          else if (m.1 (q0 + 1) a7.toNatClampNeg) = 3 then
            if rn_in a7 6 = true then
              (show Option (Int32) from
                if (m.1 (q0 + 4) a7.toNatClampNeg) = a1 then
                  if rn_in a7 6 = true then
                    if rn_in a7 6 = true then
                      if ((a5 >>> ((((4 : Int32) * (m.1 (q0 + 2) a7.toNatClampNeg)) + (m.1 (q0 + 3) a7.toNatClampNeg)) &&& 31)) &&& 1) = 0 then
                        some (0)
                      else
                        some (1)
                    else none
                  else none
                else
                  some (0)).bind fun x26 =>
              some (x26)
            else none
          else 
            some (0)).bind fun x28 =>
        (show Option (Int32) from
          if x28 = 0 then
            some (a6)
          else
            (some (a6 ||| ((1 : Int32) <<< (a7 &&& 31)))).bind fun (x30 : Int32) =>
            some (x30)).bind fun x31 =>
        (some (a7 + 1)).bind fun (x33 : Int32) =>
        cl_againstTrick_l6 q0 a1 a2 a3 a4 a5 n x31 x33 m
      else none
    else
      some (a6, m)
def cl_againstTrick (n : Nat) (q0 : Nat) (a1 : Int32) (a2 : Int32) (a3 : Int32) (a4 : Int32) (a5 : Int32) (m : rn_Mem) : Option (Int32 × rn_Mem) :=
  (cl_againstTrick_l6 q0 a1 a2 a3 a4 a5 n 0 0 m).bind fun (x43, m36) =>
  some (x43, m36)
set_option maxHeartbeats 4000000 in
set_option maxRecDepth 20000 in
theorem cl_againstTrick_l6_ok (xs : List Int32) {d : Nat} {q0 : Nat} {a1 : Int32} {a2 : Int32} {a3 : Int32} {a4 : Int32} {a5 : Int32} {r : Option Value} {τ : rn_H} {out : Int32 × rn_Mem} (hr : ∀ (z6 : Int32) (mO : rn_Mem), out = (z6, mO) → ∀ (o0 o1 o2 o3 o4 o5 o7 o8 : Option Value), rn_R xs d 82 189 [o0, o1, o2, o3, o4, o5, some (.int z6), o7, o8] [] (rn_SH, mO) r τ) : ∀ (n : Nat) (a6 : Int32) (a7 : Int32) (o8 : Option Value) (m : rn_Mem), sA_Clues q0 → cl_againstTrick_l6 q0 a1 a2 a3 a4 a5 n a6 a7 m = some out → rn_R xs d 82 6 [some (.ref q0), some (.int a1), some (.int a2), some (.int a3), some (.int a4), some (.int a5), some (.int a6), some (.int a7), o8] [] (rn_SH, m) r τ := by
  intro n
  induction n with
  | zero =>
    intro _ _ _ _ _ h
    cases h
  | succ n ih =>
    intro a6 a7 o8 m hq0 h
    unfold cl_againstTrick_l6 at h
    try dsimp only at h
    refine rx_p (L2 := [some (.ref q0), some (.int a1), some (.int a2), some (.int a3), some (.int a4), some (.int a5), some (.int a6), some (.int a7), o8]) (S2 := [.int a7]) (pc2 := 8) op82_6 rfl rfl ?_
    refine rx_p (L2 := [some (.ref q0), some (.int a1), some (.int a2), some (.int a3), some (.int a4), some (.int a5), some (.int a6), some (.int a7), o8]) (S2 := [.ref q0, .int a7]) (pc2 := 9) op82_8 rfl rfl ?_
    refine rx_gf (v := .int (m.1 q0 0)) (pc2 := 12) op82_9 (hq0.1) rfl rfl rfl ?_
    refine ry_ic_ge (tgt := 189) (pc2 := 15) op82_12 (by decide) (by decide) rfl (fun b1 => ?_) (fun b1 => ?_)
    · have h := (if_pos b1).symm.trans h
      refine rx_ic (v := 0) (pc2 := 16) op82_15 (by decide) rfl ?_
      refine rx_s (L2 := [some (.ref q0), some (.int a1), some (.int a2), some (.int a3), some (.int a4), some (.int a5), some (.int a6), some (.int a7), some (.int 0)]) (pc2 := 18) op82_16 rfl rfl rfl ?_
      refine rx_p (L2 := [some (.ref q0), some (.int a1), some (.int a2), some (.int a3), some (.int a4), some (.int a5), some (.int a6), some (.int a7), some (.int 0)]) (S2 := [.ref q0]) (pc2 := 19) op82_18 rfl rfl ?_
      refine rx_gf (v := .ref (q0 + 1)) (pc2 := 22) op82_19 (hq0.1) rfl rfl rfl ?_
      refine rx_p (L2 := [some (.ref q0), some (.int a1), some (.int a2), some (.int a3), some (.int a4), some (.int a5), some (.int a6), some (.int a7), some (.int 0)]) (S2 := [.int a7, .ref (q0 + 1)]) (pc2 := 24) op82_22 rfl rfl ?_
      obtain ⟨k2, h⟩ := rq_chk h
      refine rx_ia (pc2 := 25) op82_24 (rn_shlt (hq0.2.1)) (hq0.2.1) k2 rfl rfl ?_
      obtain ⟨x28, gc35, h⟩ := rq_bind h
      try dsimp only at h
      have c35 : ∀ (_ : Unit), rn_R xs d 82 169 [some (.ref q0), some (.int a1), some (.int a2), some (.int a3), some (.int a4), some (.int a5), some (.int a6), some (.int a7), some (.int x28)] [] (rn_SH, m) r τ := by
        intro _
        refine rx_p (L2 := [some (.ref q0), some (.int a1), some (.int a2), some (.int a3), some (.int a4), some (.int a5), some (.int a6), some (.int a7), some (.int x28)]) (S2 := [.int x28]) (pc2 := 171) op82_169 rfl rfl ?_
        obtain ⟨x31, gc34, h⟩ := rq_bind h
        try dsimp only at h
        have c34 : ∀ (o32 : Option Value), rn_R xs d 82 183 [some (.ref q0), some (.int a1), some (.int a2), some (.int a3), some (.int a4), some (.int a5), some (.int x31), some (.int a7), o32] [] (rn_SH, m) r τ := by
          intro o32
          obtain ⟨x33, ex33, h⟩ := rq_bv h
          refine rx_inc (w := 1) (v := x33) (L2 := [some (.ref q0), some (.int a1), some (.int a2), some (.int a3), some (.int a4), some (.int a5), some (.int x31), some (.int x33), o32]) (pc2 := 186) op82_183 rfl (by decide) ex33 rfl rfl ?_
          refine ry_go (tgt := 6) op82_186 (by decide) (by decide) ?_
          exact ih _ _ _ _ hq0 h
        refine ry_if_eq (tgt := 183) (pc2 := 174) op82_171 (by decide) (by decide) rfl (fun b29 => ?_) (fun b29 => ?_)
        · have gc34 := (if_pos b29).symm.trans gc34
          cases gc34
          exact c34 _
        · have gc34 := (if_neg b29).symm.trans gc34
          refine rx_p (L2 := [some (.ref q0), some (.int a1), some (.int a2), some (.int a3), some (.int a4), some (.int a5), some (.int a6), some (.int a7), some (.int x28)]) (S2 := [.int a6]) (pc2 := 176) op82_174 rfl rfl ?_
          refine rx_ic (v := 1) (pc2 := 177) op82_176 (by decide) rfl ?_
          refine rx_p (L2 := [some (.ref q0), some (.int a1), some (.int a2), some (.int a3), some (.int a4), some (.int a5), some (.int a6), some (.int a7), some (.int x28)]) (S2 := [.int a7, .int 1, .int a6]) (pc2 := 179) op82_177 rfl rfl ?_
          refine rx_p (L2 := [some (.ref q0), some (.int a1), some (.int a2), some (.int a3), some (.int a4), some (.int a5), some (.int a6), some (.int a7), some (.int x28)]) (S2 := [.int ((1 : Int32) <<< (a7 &&& 31)), .int a6]) (pc2 := 180) op82_179 rfl rfl ?_
          refine rx_p (L2 := [some (.ref q0), some (.int a1), some (.int a2), some (.int a3), some (.int a4), some (.int a5), some (.int a6), some (.int a7), some (.int x28)]) (S2 := [.int (a6 ||| ((1 : Int32) <<< (a7 &&& 31)))]) (pc2 := 181) op82_180 rfl rfl ?_
          obtain ⟨x30, ex30, gc34⟩ := rq_bv gc34
          refine rx_s (v := x30) (L2 := [some (.ref q0), some (.int a1), some (.int a2), some (.int a3), some (.int a4), some (.int a5), some (.int x30), some (.int a7), some (.int x28)]) (pc2 := 183) op82_181 ex30 rfl rfl ?_
          cases gc34
          exact c34 _
      by_cases b3 : (m.1 (q0 + 1) a7.toNatClampNeg) = 1
      · have gc35 := (if_pos b3).symm.trans gc35
        refine ry_ti (w := 1) (off := 27) (tgt := 52) op82_25 (by rw [b3] <;> decide) (by decide) (by decide) (by decide) (by decide) ?_
        refine rx_p (L2 := [some (.ref q0), some (.int a1), some (.int a2), some (.int a3), some (.int a4), some (.int a5), some (.int a6), some (.int a7), some (.int 0)]) (S2 := [.ref q0]) (pc2 := 53) op82_52 rfl rfl ?_
        refine rx_gf (v := .ref (q0 + 3)) (pc2 := 56) op82_53 (hq0.1) rfl rfl rfl ?_
        refine rx_p (L2 := [some (.ref q0), some (.int a1), some (.int a2), some (.int a3), some (.int a4), some (.int a5), some (.int a6), some (.int a7), some (.int 0)]) (S2 := [.int a7, .ref (q0 + 3)]) (pc2 := 58) op82_56 rfl rfl ?_
        obtain ⟨k6, gc35⟩ := rq_chk gc35
        refine rx_ia (pc2 := 59) op82_58 (rn_shlt (hq0.2.2.2.1)) (hq0.2.2.2.1) k6 rfl rfl ?_
        refine rx_p (L2 := [some (.ref q0), some (.int a1), some (.int a2), some (.int a3), some (.int a4), some (.int a5), some (.int a6), some (.int a7), some (.int 0)]) (S2 := [.int a1, .int (m.1 (q0 + 3) a7.toNatClampNeg)]) (pc2 := 60) op82_59 rfl rfl ?_
        obtain ⟨x11, gc12, gc35⟩ := rq_bind gc35
        try dsimp only at gc35
        have c12 : ∀ (o10 : Option Value), rn_R xs d 82 79 [some (.ref q0), some (.int a1), some (.int a2), some (.int a3), some (.int a4), some (.int a5), some (.int a6), some (.int a7), o10] [.int x11] (rn_SH, m) r τ := by
          intro o10
          refine rx_s (L2 := [some (.ref q0), some (.int a1), some (.int a2), some (.int a3), some (.int a4), some (.int a5), some (.int a6), some (.int a7), some (.int x11)]) (pc2 := 81) op82_79 rfl rfl rfl ?_
          refine ry_go (tgt := 169) op82_81 (by decide) (by decide) ?_
          cases gc35
          exact c35 ()
        refine ry_ic_ne (tgt := 78) (pc2 := 63) op82_60 (by decide) (by decide) rfl (fun b7 => ?_) (fun b7 => ?_)
        · have gc12 := (if_pos b7).symm.trans gc12
          refine rx_p (L2 := [some (.ref q0), some (.int a1), some (.int a2), some (.int a3), some (.int a4), some (.int a5), some (.int a6), some (.int a7), some (.int 0)]) (S2 := [.ref q0]) (pc2 := 64) op82_63 rfl rfl ?_
          refine rx_gf (v := .ref (q0 + 2)) (pc2 := 67) op82_64 (hq0.1) rfl rfl rfl ?_
          refine rx_p (L2 := [some (.ref q0), some (.int a1), some (.int a2), some (.int a3), some (.int a4), some (.int a5), some (.int a6), some (.int a7), some (.int 0)]) (S2 := [.int a7, .ref (q0 + 2)]) (pc2 := 69) op82_67 rfl rfl ?_
          obtain ⟨k8, gc12⟩ := rq_chk gc12
          refine rx_ia (pc2 := 70) op82_69 (rn_shlt (hq0.2.2.1)) (hq0.2.2.1) k8 rfl rfl ?_
          refine rx_p (L2 := [some (.ref q0), some (.int a1), some (.int a2), some (.int a3), some (.int a4), some (.int a5), some (.int a6), some (.int a7), some (.int 0)]) (S2 := [.int a2, .int (m.1 (q0 + 2) a7.toNatClampNeg)]) (pc2 := 71) op82_70 rfl rfl ?_
          refine ry_ic_eq (tgt := 78) (pc2 := 74) op82_71 (by decide) (by decide) rfl (fun b9 => ?_) (fun b9 => ?_)
          · have gc12 := (if_pos b9).symm.trans gc12
            refine rx_ic (v := 0) (pc2 := 79) op82_78 (by decide) rfl ?_
            cases gc12
            exact c12 _
          · have gc12 := (if_neg b9).symm.trans gc12
            refine rx_ic (v := 1) (pc2 := 75) op82_74 (by decide) rfl ?_
            refine ry_go (tgt := 79) op82_75 (by decide) (by decide) ?_
            cases gc12
            exact c12 _
        · have gc12 := (if_neg b7).symm.trans gc12
          refine rx_ic (v := 0) (pc2 := 79) op82_78 (by decide) rfl ?_
          cases gc12
          exact c12 _
      have gc35 := (if_neg b3).symm.trans gc35
      by_cases b4 : (m.1 (q0 + 1) a7.toNatClampNeg) = 2
      · have gc35 := (if_pos b4).symm.trans gc35
        refine ry_ti (w := 2) (off := 59) (tgt := 84) op82_25 (by rw [b4] <;> decide) (by decide) (by decide) (by decide) (by decide) ?_
        refine rx_p (L2 := [some (.ref q0), some (.int a1), some (.int a2), some (.int a3), some (.int a4), some (.int a5), some (.int a6), some (.int a7), some (.int 0)]) (S2 := [.int a3]) (pc2 := 85) op82_84 rfl rfl ?_
        refine rx_p (L2 := [some (.ref q0), some (.int a1), some (.int a2), some (.int a3), some (.int a4), some (.int a5), some (.int a6), some (.int a7), some (.int 0)]) (S2 := [.ref q0, .int a3]) (pc2 := 86) op82_85 rfl rfl ?_
        refine rx_gf (v := .ref (q0 + 2)) (pc2 := 89) op82_86 (hq0.1) rfl rfl rfl ?_
        refine rx_p (L2 := [some (.ref q0), some (.int a1), some (.int a2), some (.int a3), some (.int a4), some (.int a5), some (.int a6), some (.int a7), some (.int 0)]) (S2 := [.int a7, .ref (q0 + 2), .int a3]) (pc2 := 91) op82_89 rfl rfl ?_
        obtain ⟨k13, gc35⟩ := rq_chk gc35
        refine rx_ia (pc2 := 92) op82_91 (rn_shlt (hq0.2.2.1)) (hq0.2.2.1) k13 rfl rfl ?_
        refine rx_p (L2 := [some (.ref q0), some (.int a1), some (.int a2), some (.int a3), some (.int a4), some (.int a5), some (.int a6), some (.int a7), some (.int 0)]) (S2 := [.int (a3 >>> ((m.1 (q0 + 2) a7.toNatClampNeg) &&& 31))]) (pc2 := 93) op82_92 rfl rfl ?_
        refine rx_ic (v := 1) (pc2 := 94) op82_93 (by decide) rfl ?_
        refine rx_p (L2 := [some (.ref q0), some (.int a1), some (.int a2), some (.int a3), some (.int a4), some (.int a5), some (.int a6), some (.int a7), some (.int 0)]) (S2 := [.int ((a3 >>> ((m.1 (q0 + 2) a7.toNatClampNeg) &&& 31)) &&& 1)]) (pc2 := 95) op82_94 rfl rfl ?_
        obtain ⟨x18, gc19, gc35⟩ := rq_bind gc35
        try dsimp only at gc35
        have c19 : ∀ (o17 : Option Value), rn_R xs d 82 118 [some (.ref q0), some (.int a1), some (.int a2), some (.int a3), some (.int a4), some (.int a5), some (.int a6), some (.int a7), o17] [.int x18] (rn_SH, m) r τ := by
          intro o17
          refine rx_s (L2 := [some (.ref q0), some (.int a1), some (.int a2), some (.int a3), some (.int a4), some (.int a5), some (.int a6), some (.int a7), some (.int x18)]) (pc2 := 120) op82_118 rfl rfl rfl ?_
          refine ry_go (tgt := 169) op82_120 (by decide) (by decide) ?_
          cases gc35
          exact c35 ()
        refine ry_if_eq (tgt := 117) (pc2 := 98) op82_95 (by decide) (by decide) rfl (fun b14 => ?_) (fun b14 => ?_)
        · have gc19 := (if_pos b14).symm.trans gc19
          refine rx_ic (v := 0) (pc2 := 118) op82_117 (by decide) rfl ?_
          cases gc19
          exact c19 _
        · have gc19 := (if_neg b14).symm.trans gc19
          refine rx_p (L2 := [some (.ref q0), some (.int a1), some (.int a2), some (.int a3), some (.int a4), some (.int a5), some (.int a6), some (.int a7), some (.int 0)]) (S2 := [.int a4]) (pc2 := 100) op82_98 rfl rfl ?_
          refine rx_p (L2 := [some (.ref q0), some (.int a1), some (.int a2), some (.int a3), some (.int a4), some (.int a5), some (.int a6), some (.int a7), some (.int 0)]) (S2 := [.ref q0, .int a4]) (pc2 := 101) op82_100 rfl rfl ?_
          refine rx_gf (v := .ref (q0 + 3)) (pc2 := 104) op82_101 (hq0.1) rfl rfl rfl ?_
          refine rx_p (L2 := [some (.ref q0), some (.int a1), some (.int a2), some (.int a3), some (.int a4), some (.int a5), some (.int a6), some (.int a7), some (.int 0)]) (S2 := [.int a7, .ref (q0 + 3), .int a4]) (pc2 := 106) op82_104 rfl rfl ?_
          obtain ⟨k15, gc19⟩ := rq_chk gc19
          refine rx_ia (pc2 := 107) op82_106 (rn_shlt (hq0.2.2.2.1)) (hq0.2.2.2.1) k15 rfl rfl ?_
          refine rx_p (L2 := [some (.ref q0), some (.int a1), some (.int a2), some (.int a3), some (.int a4), some (.int a5), some (.int a6), some (.int a7), some (.int 0)]) (S2 := [.int (a4 >>> ((m.1 (q0 + 3) a7.toNatClampNeg) &&& 31))]) (pc2 := 108) op82_107 rfl rfl ?_
          refine rx_ic (v := 1) (pc2 := 109) op82_108 (by decide) rfl ?_
          refine rx_p (L2 := [some (.ref q0), some (.int a1), some (.int a2), some (.int a3), some (.int a4), some (.int a5), some (.int a6), some (.int a7), some (.int 0)]) (S2 := [.int ((a4 >>> ((m.1 (q0 + 3) a7.toNatClampNeg) &&& 31)) &&& 1)]) (pc2 := 110) op82_109 rfl rfl ?_
          refine ry_if_ne (tgt := 117) (pc2 := 113) op82_110 (by decide) (by decide) rfl (fun b16 => ?_) (fun b16 => ?_)
          · have gc19 := (if_pos b16).symm.trans gc19
            refine rx_ic (v := 1) (pc2 := 114) op82_113 (by decide) rfl ?_
            refine ry_go (tgt := 118) op82_114 (by decide) (by decide) ?_
            cases gc19
            exact c19 _
          · have gc19 := (if_neg b16).symm.trans gc19
            refine rx_ic (v := 0) (pc2 := 118) op82_117 (by decide) rfl ?_
            cases gc19
            exact c19 _
      have gc35 := (if_neg b4).symm.trans gc35
      by_cases b5 : (m.1 (q0 + 1) a7.toNatClampNeg) = 3
      · have gc35 := (if_pos b5).symm.trans gc35
        refine ry_ti (w := 3) (off := 98) (tgt := 123) op82_25 (by rw [b5] <;> decide) (by decide) (by decide) (by decide) (by decide) ?_
        refine rx_p (L2 := [some (.ref q0), some (.int a1), some (.int a2), some (.int a3), some (.int a4), some (.int a5), some (.int a6), some (.int a7), some (.int 0)]) (S2 := [.ref q0]) (pc2 := 124) op82_123 rfl rfl ?_
        refine rx_gf (v := .ref (q0 + 4)) (pc2 := 127) op82_124 (hq0.1) rfl rfl rfl ?_
        refine rx_p (L2 := [some (.ref q0), some (.int a1), some (.int a2), some (.int a3), some (.int a4), some (.int a5), some (.int a6), some (.int a7), some (.int 0)]) (S2 := [.int a7, .ref (q0 + 4)]) (pc2 := 129) op82_127 rfl rfl ?_
        obtain ⟨k20, gc35⟩ := rq_chk gc35
        refine rx_ia (pc2 := 130) op82_129 (rn_shlt (hq0.2.2.2.2)) (hq0.2.2.2.2) k20 rfl rfl ?_
        refine rx_p (L2 := [some (.ref q0), some (.int a1), some (.int a2), some (.int a3), some (.int a4), some (.int a5), some (.int a6), some (.int a7), some (.int 0)]) (S2 := [.int a1, .int (m.1 (q0 + 4) a7.toNatClampNeg)]) (pc2 := 131) op82_130 rfl rfl ?_
        obtain ⟨x26, gc27, gc35⟩ := rq_bind gc35
        try dsimp only at gc35
        have c27 : ∀ (o25 : Option Value), rn_R xs d 82 164 [some (.ref q0), some (.int a1), some (.int a2), some (.int a3), some (.int a4), some (.int a5), some (.int a6), some (.int a7), o25] [.int x26] (rn_SH, m) r τ := by
          intro o25
          refine rx_s (L2 := [some (.ref q0), some (.int a1), some (.int a2), some (.int a3), some (.int a4), some (.int a5), some (.int a6), some (.int a7), some (.int x26)]) (pc2 := 166) op82_164 rfl rfl rfl ?_
          refine ry_go (tgt := 169) op82_166 (by decide) (by decide) ?_
          cases gc35
          exact c35 ()
        refine ry_ic_ne (tgt := 163) (pc2 := 134) op82_131 (by decide) (by decide) rfl (fun b21 => ?_) (fun b21 => ?_)
        · have gc27 := (if_pos b21).symm.trans gc27
          refine rx_p (L2 := [some (.ref q0), some (.int a1), some (.int a2), some (.int a3), some (.int a4), some (.int a5), some (.int a6), some (.int a7), some (.int 0)]) (S2 := [.int a5]) (pc2 := 136) op82_134 rfl rfl ?_
          refine rx_ic (v := 4) (pc2 := 137) op82_136 (by decide) rfl ?_
          refine rx_p (L2 := [some (.ref q0), some (.int a1), some (.int a2), some (.int a3), some (.int a4), some (.int a5), some (.int a6), some (.int a7), some (.int 0)]) (S2 := [.ref q0, .int 4, .int a5]) (pc2 := 138) op82_137 rfl rfl ?_
          refine rx_gf (v := .ref (q0 + 2)) (pc2 := 141) op82_138 (hq0.1) rfl rfl rfl ?_
          refine rx_p (L2 := [some (.ref q0), some (.int a1), some (.int a2), some (.int a3), some (.int a4), some (.int a5), some (.int a6), some (.int a7), some (.int 0)]) (S2 := [.int a7, .ref (q0 + 2), .int 4, .int a5]) (pc2 := 143) op82_141 rfl rfl ?_
          obtain ⟨k22, gc27⟩ := rq_chk gc27
          refine rx_ia (pc2 := 144) op82_143 (rn_shlt (hq0.2.2.1)) (hq0.2.2.1) k22 rfl rfl ?_
          refine rx_p (L2 := [some (.ref q0), some (.int a1), some (.int a2), some (.int a3), some (.int a4), some (.int a5), some (.int a6), some (.int a7), some (.int 0)]) (S2 := [.int ((4 : Int32) * (m.1 (q0 + 2) a7.toNatClampNeg)), .int a5]) (pc2 := 145) op82_144 rfl rfl ?_
          refine rx_p (L2 := [some (.ref q0), some (.int a1), some (.int a2), some (.int a3), some (.int a4), some (.int a5), some (.int a6), some (.int a7), some (.int 0)]) (S2 := [.ref q0, .int ((4 : Int32) * (m.1 (q0 + 2) a7.toNatClampNeg)), .int a5]) (pc2 := 146) op82_145 rfl rfl ?_
          refine rx_gf (v := .ref (q0 + 3)) (pc2 := 149) op82_146 (hq0.1) rfl rfl rfl ?_
          refine rx_p (L2 := [some (.ref q0), some (.int a1), some (.int a2), some (.int a3), some (.int a4), some (.int a5), some (.int a6), some (.int a7), some (.int 0)]) (S2 := [.int a7, .ref (q0 + 3), .int ((4 : Int32) * (m.1 (q0 + 2) a7.toNatClampNeg)), .int a5]) (pc2 := 151) op82_149 rfl rfl ?_
          obtain ⟨k23, gc27⟩ := rq_chk gc27
          refine rx_ia (pc2 := 152) op82_151 (rn_shlt (hq0.2.2.2.1)) (hq0.2.2.2.1) k23 rfl rfl ?_
          refine rx_p (L2 := [some (.ref q0), some (.int a1), some (.int a2), some (.int a3), some (.int a4), some (.int a5), some (.int a6), some (.int a7), some (.int 0)]) (S2 := [.int (((4 : Int32) * (m.1 (q0 + 2) a7.toNatClampNeg)) + (m.1 (q0 + 3) a7.toNatClampNeg)), .int a5]) (pc2 := 153) op82_152 rfl rfl ?_
          refine rx_p (L2 := [some (.ref q0), some (.int a1), some (.int a2), some (.int a3), some (.int a4), some (.int a5), some (.int a6), some (.int a7), some (.int 0)]) (S2 := [.int (a5 >>> ((((4 : Int32) * (m.1 (q0 + 2) a7.toNatClampNeg)) + (m.1 (q0 + 3) a7.toNatClampNeg)) &&& 31))]) (pc2 := 154) op82_153 rfl rfl ?_
          refine rx_ic (v := 1) (pc2 := 155) op82_154 (by decide) rfl ?_
          refine rx_p (L2 := [some (.ref q0), some (.int a1), some (.int a2), some (.int a3), some (.int a4), some (.int a5), some (.int a6), some (.int a7), some (.int 0)]) (S2 := [.int ((a5 >>> ((((4 : Int32) * (m.1 (q0 + 2) a7.toNatClampNeg)) + (m.1 (q0 + 3) a7.toNatClampNeg)) &&& 31)) &&& 1)]) (pc2 := 156) op82_155 rfl rfl ?_
          refine ry_if_eq (tgt := 163) (pc2 := 159) op82_156 (by decide) (by decide) rfl (fun b24 => ?_) (fun b24 => ?_)
          · have gc27 := (if_pos b24).symm.trans gc27
            refine rx_ic (v := 0) (pc2 := 164) op82_163 (by decide) rfl ?_
            cases gc27
            exact c27 _
          · have gc27 := (if_neg b24).symm.trans gc27
            refine rx_ic (v := 1) (pc2 := 160) op82_159 (by decide) rfl ?_
            refine ry_go (tgt := 164) op82_160 (by decide) (by decide) ?_
            cases gc27
            exact c27 _
        · have gc27 := (if_neg b21).symm.trans gc27
          refine rx_ic (v := 0) (pc2 := 164) op82_163 (by decide) rfl ?_
          cases gc27
          exact c27 _
      have gc35 := (if_neg b5).symm.trans gc35
      have tb3 := rq_nt 1 (by decide) b3
      have tb4 := rq_nt 2 (by decide) b4
      have tb5 := rq_nt 3 (by decide) b5
      refine ry_to (tgt := 169) op82_25 (by omega) (by decide) (by decide) ?_
      cases gc35
      exact c35 ()
    · have h := (if_neg b1).symm.trans h
      cases h
      exact hr _ _ rfl _ _ _ _ _ _ _ _
set_option maxHeartbeats 4000000 in
set_option maxRecDepth 20000 in
theorem cl_againstTrick_ok (xs : List Int32) {d : Nat} (hd : 0 ≤ d) {n : Nat} {q0 : Nat} {a1 : Int32} {a2 : Int32} {a3 : Int32} {a4 : Int32} {a5 : Int32} {m mO : rn_Mem} {rO : Int32} (hq0 : sA_Clues q0) (h : cl_againstTrick n q0 a1 a2 a3 a4 a5 m = some (rO, mO)) : rn_R xs d 82 0 (rn_ent 9 [.ref q0, .int a1, .int a2, .int a3, .int a4, .int a5]) [] (rn_SH, m) (some (.int rO)) (rn_SH, mO) := by
  unfold cl_againstTrick at h
  show rn_R xs d 82 0 [some (.ref q0), some (.int a1), some (.int a2), some (.int a3), some (.int a4), some (.int a5), none, none, none] [] (rn_SH, m) (some (.int rO)) (rn_SH, mO)
  refine rx_ic (v := 0) (pc2 := 1) op82_0 (by decide) rfl ?_
  refine rx_s (L2 := [some (.ref q0), some (.int a1), some (.int a2), some (.int a3), some (.int a4), some (.int a5), some (.int 0), none, none]) (pc2 := 3) op82_1 rfl rfl rfl ?_
  refine rx_ic (v := 0) (pc2 := 4) op82_3 (by decide) rfl ?_
  refine rx_s (L2 := [some (.ref q0), some (.int a1), some (.int a2), some (.int a3), some (.int a4), some (.int a5), some (.int 0), some (.int 0), none]) (pc2 := 6) op82_4 rfl rfl rfl ?_
  obtain ⟨wf46, f46, h⟩ := rq_bind h
  refine cl_againstTrick_l6_ok xs (fun x43 m36 eq => ?_) _ _ _ _ _ hq0 f46
  subst eq
  try dsimp only at h
  intro o37 o38 o39 o40 o41 o42 o44 o45
  refine rx_p (L2 := [o37, o38, o39, o40, o41, o42, some (.int x43), o44, o45]) (S2 := [.int x43]) (pc2 := 191) op82_189 rfl rfl ?_
  obtain ⟨rfl, rfl⟩ := rq_ret h
  exact ry_ri op82_191 ms_82 rfl
/-! se_rankOf -/
theorem op84_0 : rn_op 84 0 = some (.bipush 64, 2, 0, 0, 0) := by decide +kernel
theorem op84_2 : rn_op 84 2 = some (.iload_n 0, 1, 0, 0, 0) := by decide +kernel
theorem op84_3 : rn_op 84 3 = some (.invokestatic 215, 3, 81, 1, 0) := by decide +kernel
theorem op84_6 : rn_op 84 6 = some (.imul, 1, 0, 0, 0) := by decide +kernel
theorem op84_7 : rn_op 84 7 = some (.iload_n 0, 1, 0, 0, 0) := by decide +kernel
theorem op84_8 : rn_op 84 8 = some (.iadd, 1, 0, 0, 0) := by decide +kernel
theorem op84_9 : rn_op 84 9 = some (.ireturn, 1, 0, 0, 0) := by decide +kernel
def se_rankOf (n : Nat) (a0 : Int32) (m : rn_Mem) : Option (Int32 × rn_Mem) :=
  (ja_bitCount n a0 m).bind fun (r2, m1) =>
  some (((64 : Int32) * r2) + a0, m1)
set_option maxHeartbeats 4000000 in
set_option maxRecDepth 20000 in
theorem se_rankOf_ok (xs : List Int32) {d : Nat} (hd : 1 ≤ d) {n : Nat} {a0 : Int32} {m mO : rn_Mem} {rO : Int32} (h : se_rankOf n a0 m = some (rO, mO)) : rn_R xs d 84 0 (rn_ent 1 [.int a0]) [] (rn_SH, m) (some (.int rO)) (rn_SH, mO) := by
  obtain ⟨d, rfl⟩ : ∃ e, d = e + 1 := ⟨d - 1, by omega⟩
  unfold se_rankOf at h
  show rn_R xs (d + 1) 84 0 [some (.int a0)] [] (rn_SH, m) (some (.int rO)) (rn_SH, mO)
  refine rx_bp (v := 64) (pc2 := 2) op84_0 (by decide) rfl ?_
  refine rx_p (L2 := [some (.int a0)]) (S2 := [.int a0, .int 64]) (pc2 := 3) op84_2 rfl rfl ?_
  obtain ⟨⟨r2, m1⟩, f3, h⟩ := rq_bind h
  try dsimp only at h
  refine ry_is (vs := [.int a0]) (T := [.int 64]) (pc2 := 6) op84_3 (by decide) ms_81 (by decide) rfl rfl (Nat.le_of_ble_eq_true rfl) (Nat.le_of_ble_eq_true rfl) (ja_bitCount_ok xs (by omega)  f3) rfl ?_
  show rn_R _ _ _ _ _ [.int r2, .int 64] _ _ _
  refine rx_p (L2 := [some (.int a0)]) (S2 := [.int ((64 : Int32) * r2)]) (pc2 := 7) op84_6 rfl rfl ?_
  refine rx_p (L2 := [some (.int a0)]) (S2 := [.int a0, .int ((64 : Int32) * r2)]) (pc2 := 8) op84_7 rfl rfl ?_
  refine rx_p (L2 := [some (.int a0)]) (S2 := [.int (((64 : Int32) * r2) + a0)]) (pc2 := 9) op84_8 rfl rfl ?_
  obtain ⟨rfl, rfl⟩ := rq_ret h
  exact ry_ri op84_9 ms_84 rfl
/-! se_promises -/
theorem op83_0 : rn_op 83 0 = some (.aload_n 0, 1, 0, 0, 0) := by decide +kernel
theorem op83_1 : rn_op 83 1 = some (.getfield 76, 3, 4, 10, 0) := by decide +kernel
theorem op83_4 : rn_op 83 4 = some (.iconst 1, 1, 0, 0, 0) := by decide +kernel
theorem op83_5 : rn_op 83 5 = some (.if_icmp .ne 20, 3, 0, 0, 0) := by decide +kernel
theorem op83_8 : rn_op 83 8 = some (.iload_n 3, 1, 0, 0, 0) := by decide +kernel
theorem op83_9 : rn_op 83 9 = some (.invokestatic 243, 3, 84, 1, 0) := by decide +kernel
theorem op83_12 : rn_op 83 12 = some (.aload_n 0, 1, 0, 0, 0) := by decide +kernel
theorem op83_13 : rn_op 83 13 = some (.getfield 104, 3, 4, 11, 0) := by decide +kernel
theorem op83_16 : rn_op 83 16 = some (.if_icmp .ge 7, 3, 0, 0, 0) := by decide +kernel
theorem op83_19 : rn_op 83 19 = some (.iconst 1, 1, 0, 0, 0) := by decide +kernel
theorem op83_20 : rn_op 83 20 = some (.goto 4, 3, 0, 0, 0) := by decide +kernel
theorem op83_23 : rn_op 83 23 = some (.iconst 0, 1, 0, 0, 0) := by decide +kernel
theorem op83_24 : rn_op 83 24 = some (.ireturn, 1, 0, 0, 0) := by decide +kernel
theorem op83_25 : rn_op 83 25 = some (.iload_n 3, 1, 0, 0, 0) := by decide +kernel
theorem op83_26 : rn_op 83 26 = some (.ifCond .eq 5, 3, 0, 0, 0) := by decide +kernel
theorem op83_29 : rn_op 83 29 = some (.iconst 0, 1, 0, 0, 0) := by decide +kernel
theorem op83_30 : rn_op 83 30 = some (.ireturn, 1, 0, 0, 0) := by decide +kernel
theorem op83_31 : rn_op 83 31 = some (.aload_n 0, 1, 0, 0, 0) := by decide +kernel
theorem op83_32 : rn_op 83 32 = some (.getfield 76, 3, 4, 10, 0) := by decide +kernel
theorem op83_35 : rn_op 83 35 = some (.ifCond .eq 13, 3, 0, 0, 0) := by decide +kernel
theorem op83_38 : rn_op 83 38 = some (.iload_n 1, 1, 0, 0, 0) := by decide +kernel
theorem op83_39 : rn_op 83 39 = some (.aload_n 0, 1, 0, 0, 0) := by decide +kernel
theorem op83_40 : rn_op 83 40 = some (.getfield 57, 3, 4, 19, 3) := by decide +kernel
theorem op83_43 : rn_op 83 43 = some (.iconst 0, 1, 0, 0, 0) := by decide +kernel
theorem op83_44 : rn_op 83 44 = some (.iaload, 1, 0, 0, 0) := by decide +kernel
theorem op83_45 : rn_op 83 45 = some (.if_icmp .ge 5, 3, 0, 0, 0) := by decide +kernel
theorem op83_48 : rn_op 83 48 = some (.iconst 1, 1, 0, 0, 0) := by decide +kernel
theorem op83_49 : rn_op 83 49 = some (.ireturn, 1, 0, 0, 0) := by decide +kernel
theorem op83_50 : rn_op 83 50 = some (.iconst 0, 1, 0, 0, 0) := by decide +kernel
theorem op83_51 : rn_op 83 51 = some (.istore 4, 2, 0, 0, 0) := by decide +kernel
theorem op83_53 : rn_op 83 53 = some (.iload 4, 2, 0, 0, 0) := by decide +kernel
theorem op83_55 : rn_op 83 55 = some (.aload_n 0, 1, 0, 0, 0) := by decide +kernel
theorem op83_56 : rn_op 83 56 = some (.getfield 12, 3, 4, 0, 3) := by decide +kernel
theorem op83_59 : rn_op 83 59 = some (.getfield 101, 3, 1, 1, 0) := by decide +kernel
theorem op83_62 : rn_op 83 62 = some (.if_icmp .ge 35, 3, 0, 0, 0) := by decide +kernel
theorem op83_65 : rn_op 83 65 = some (.iload_n 2, 1, 0, 0, 0) := by decide +kernel
theorem op83_66 : rn_op 83 66 = some (.iconst 4, 1, 0, 0, 0) := by decide +kernel
theorem op83_67 : rn_op 83 67 = some (.iload 4, 2, 0, 0, 0) := by decide +kernel
theorem op83_69 : rn_op 83 69 = some (.imul, 1, 0, 0, 0) := by decide +kernel
theorem op83_70 : rn_op 83 70 = some (.ishr, 1, 0, 0, 0) := by decide +kernel
theorem op83_71 : rn_op 83 71 = some (.iconst 1, 1, 0, 0, 0) := by decide +kernel
theorem op83_72 : rn_op 83 72 = some (.iand, 1, 0, 0, 0) := by decide +kernel
theorem op83_73 : rn_op 83 73 = some (.ifCond .ne 18, 3, 0, 0, 0) := by decide +kernel
theorem op83_76 : rn_op 83 76 = some (.iload_n 1, 1, 0, 0, 0) := by decide +kernel
theorem op83_77 : rn_op 83 77 = some (.aload_n 0, 1, 0, 0, 0) := by decide +kernel
theorem op83_78 : rn_op 83 78 = some (.getfield 57, 3, 4, 19, 3) := by decide +kernel
theorem op83_81 : rn_op 83 81 = some (.iload 4, 2, 0, 0, 0) := by decide +kernel
theorem op83_83 : rn_op 83 83 = some (.iconst 1, 1, 0, 0, 0) := by decide +kernel
theorem op83_84 : rn_op 83 84 = some (.iadd, 1, 0, 0, 0) := by decide +kernel
theorem op83_85 : rn_op 83 85 = some (.iaload, 1, 0, 0, 0) := by decide +kernel
theorem op83_86 : rn_op 83 86 = some (.if_icmp .ge 5, 3, 0, 0, 0) := by decide +kernel
theorem op83_89 : rn_op 83 89 = some (.iconst 1, 1, 0, 0, 0) := by decide +kernel
theorem op83_90 : rn_op 83 90 = some (.ireturn, 1, 0, 0, 0) := by decide +kernel
theorem op83_91 : rn_op 83 91 = some (.iinc 4 1, 3, 0, 0, 0) := by decide +kernel
theorem op83_94 : rn_op 83 94 = some (.goto (-41), 3, 0, 0, 0) := by decide +kernel
theorem op83_97 : rn_op 83 97 = some (.iconst 0, 1, 0, 0, 0) := by decide +kernel
theorem op83_98 : rn_op 83 98 = some (.ireturn, 1, 0, 0, 0) := by decide +kernel
def se_promises_l53 (a1 : Int32) (a2 : Int32) : Nat → Int32 → rn_Mem → Option ((Int32 × rn_Mem) ⊕ (rn_Mem))
  | 0, _, _ => none
  | n + 1, a4, m =>
    if a4 < (m.1 52 1) then
      if ((a2 >>> (((4 : Int32) * a4) &&& 31)) &&& 1) = 0 then
        if rn_in (a4 + 1) 5 = true then
          if a1 < (m.1 69 (a4 + 1).toNatClampNeg) then
            some (.inl (1, m))
          else
            (some (a4 + 1)).bind fun (x15 : Int32) =>
            se_promises_l53 a1 a2 n x15 m
        else none
      else
        (some (a4 + 1)).bind fun (x17 : Int32) =>
        se_promises_l53 a1 a2 n x17 m
    else
      some (.inr m)
def se_promises (n : Nat) (a1 : Int32) (a2 : Int32) (a3 : Int32) (m : rn_Mem) : Option (Int32 × rn_Mem) :=
  if (m.1 51 10) = 1 then
    (se_rankOf n a3 m).bind fun (r3, m2) =>
    if r3 < (m2.1 51 11) then
      some (1, m2)
    else
      some (0, m2)
  else
    if a3 = 0 then
      if (m.1 51 10) = 0 then
        some (1, m)
      else
        if a1 < (m.1 69 0) then
          some (1, m)
        else
          (se_promises_l53 a1 a2 n 0 m).bind fun q => match q with
          | .inl o => some o
          | .inr m19 =>
          some (0, m19)
    else
      some (0, m)
set_option maxHeartbeats 4000000 in
set_option maxRecDepth 20000 in
theorem se_promises_l53_ok (xs : List Int32) {d : Nat} (hd : 2 ≤ d + 1) {a1 : Int32} {a2 : Int32} {r : Option Value} {τ : rn_H} {out : (Int32 × rn_Mem) ⊕ (rn_Mem)} (hl : ∀ (rO : Int32) (mO : rn_Mem), out = .inl (rO, mO) → r = (some (.int rO)) ∧ τ = (rn_SH, mO)) (hr : ∀ (mO : rn_Mem), out = .inr mO → ∀ (o0 o1 o2 o3 o4 : Option Value), rn_R xs (d + 1) 83 97 [o0, o1, o2, o3, o4] [] (rn_SH, mO) r τ) : ∀ (n : Nat) (a4 : Int32) (o3 : Option Value) (m : rn_Mem), se_promises_l53 a1 a2 n a4 m = some out → rn_R xs (d + 1) 83 53 [some (.ref 51), some (.int a1), some (.int a2), o3, some (.int a4)] [] (rn_SH, m) r τ := by
  intro n
  induction n with
  | zero =>
    intro _ _ _ h
    cases h
  | succ n ih =>
    intro a4 o3 m h
    unfold se_promises_l53 at h
    try dsimp only at h
    refine rx_p (L2 := [some (.ref 51), some (.int a1), some (.int a2), o3, some (.int a4)]) (S2 := [.int a4]) (pc2 := 55) op83_53 rfl rfl ?_
    refine rx_p (L2 := [some (.ref 51), some (.int a1), some (.int a2), o3, some (.int a4)]) (S2 := [.ref 51, .int a4]) (pc2 := 56) op83_55 rfl rfl ?_
    refine rx_gf (v := .ref 52) (pc2 := 59) op83_56 sp_51 rfl rfl rfl ?_
    refine rx_gf (v := .int (m.1 52 1)) (pc2 := 62) op83_59 sp_52 rfl rfl rfl ?_
    refine ry_ic_ge (tgt := 97) (pc2 := 65) op83_62 (by decide) (by decide) rfl (fun b9 => ?_) (fun b9 => ?_)
    · have h := (if_pos b9).symm.trans h
      refine rx_p (L2 := [some (.ref 51), some (.int a1), some (.int a2), o3, some (.int a4)]) (S2 := [.int a2]) (pc2 := 66) op83_65 rfl rfl ?_
      refine rx_ic (v := 4) (pc2 := 67) op83_66 (by decide) rfl ?_
      refine rx_p (L2 := [some (.ref 51), some (.int a1), some (.int a2), o3, some (.int a4)]) (S2 := [.int a4, .int 4, .int a2]) (pc2 := 69) op83_67 rfl rfl ?_
      refine rx_p (L2 := [some (.ref 51), some (.int a1), some (.int a2), o3, some (.int a4)]) (S2 := [.int ((4 : Int32) * a4), .int a2]) (pc2 := 70) op83_69 rfl rfl ?_
      refine rx_p (L2 := [some (.ref 51), some (.int a1), some (.int a2), o3, some (.int a4)]) (S2 := [.int (a2 >>> (((4 : Int32) * a4) &&& 31))]) (pc2 := 71) op83_70 rfl rfl ?_
      refine rx_ic (v := 1) (pc2 := 72) op83_71 (by decide) rfl ?_
      refine rx_p (L2 := [some (.ref 51), some (.int a1), some (.int a2), o3, some (.int a4)]) (S2 := [.int ((a2 >>> (((4 : Int32) * a4) &&& 31)) &&& 1)]) (pc2 := 73) op83_72 rfl rfl ?_
      refine ry_if_ne (tgt := 91) (pc2 := 76) op83_73 (by decide) (by decide) rfl (fun b10 => ?_) (fun b10 => ?_)
      · have h := (if_pos b10).symm.trans h
        refine rx_p (L2 := [some (.ref 51), some (.int a1), some (.int a2), o3, some (.int a4)]) (S2 := [.int a1]) (pc2 := 77) op83_76 rfl rfl ?_
        refine rx_p (L2 := [some (.ref 51), some (.int a1), some (.int a2), o3, some (.int a4)]) (S2 := [.ref 51, .int a1]) (pc2 := 78) op83_77 rfl rfl ?_
        refine rx_gf (v := .ref 69) (pc2 := 81) op83_78 sp_51 rfl rfl rfl ?_
        refine rx_p (L2 := [some (.ref 51), some (.int a1), some (.int a2), o3, some (.int a4)]) (S2 := [.int a4, .ref 69, .int a1]) (pc2 := 83) op83_81 rfl rfl ?_
        refine rx_ic (v := 1) (pc2 := 84) op83_83 (by decide) rfl ?_
        refine rx_p (L2 := [some (.ref 51), some (.int a1), some (.int a2), o3, some (.int a4)]) (S2 := [.int (a4 + 1), .ref 69, .int a1]) (pc2 := 85) op83_84 rfl rfl ?_
        obtain ⟨k13, h⟩ := rq_chk h
        refine rx_ia (pc2 := 86) op83_85 (rn_shlt sp_69) sp_69 k13 rfl rfl ?_
        refine ry_ic_ge (tgt := 91) (pc2 := 89) op83_86 (by decide) (by decide) rfl (fun b14 => ?_) (fun b14 => ?_)
        · have h := (if_pos b14).symm.trans h
          refine rx_ic (v := 1) (pc2 := 90) op83_89 (by decide) rfl ?_
          cases h
          obtain ⟨rfl, rfl⟩ := hl _ _ rfl
          exact ry_rz (x := 1) op83_90 ms_83 rfl (by decide)
        · have h := (if_neg b14).symm.trans h
          obtain ⟨x15, ex15, h⟩ := rq_bv h
          refine rx_incd (w := 1) (v := x15) (j := 3) (pc2 := 94) op83_91 rfl (by decide) ex15 rfl (fun o16 => ?_)
          show rn_R _ _ _ _ [some (.ref 51), some (.int a1), some (.int a2), o16, some (.int x15)] _ _ _ _
          refine ry_go (tgt := 53) op83_94 (by decide) (by decide) ?_
          exact ih _ _ _ h
      · have h := (if_neg b10).symm.trans h
        obtain ⟨x17, ex17, h⟩ := rq_bv h
        refine rx_incd (w := 1) (v := x17) (j := 3) (pc2 := 94) op83_91 rfl (by decide) ex17 rfl (fun o18 => ?_)
        show rn_R _ _ _ _ [some (.ref 51), some (.int a1), some (.int a2), o18, some (.int x17)] _ _ _ _
        refine ry_go (tgt := 53) op83_94 (by decide) (by decide) ?_
        exact ih _ _ _ h
    · have h := (if_neg b9).symm.trans h
      cases h
      exact hr _ rfl _ _ _ _ _
set_option maxHeartbeats 4000000 in
set_option maxRecDepth 20000 in
theorem se_promises_ok (xs : List Int32) {d : Nat} (hd : 2 ≤ d) {n : Nat} {a1 : Int32} {a2 : Int32} {a3 : Int32} {m mO : rn_Mem} {rO : Int32} (h : se_promises n a1 a2 a3 m = some (rO, mO)) : rn_R xs d 83 0 (rn_ent 5 [.ref 51, .int a1, .int a2, .int a3]) [] (rn_SH, m) (some (.int rO)) (rn_SH, mO) := by
  obtain ⟨d, rfl⟩ : ∃ e, d = e + 1 := ⟨d - 1, by omega⟩
  unfold se_promises at h
  show rn_R xs (d + 1) 83 0 [some (.ref 51), some (.int a1), some (.int a2), some (.int a3), none] [] (rn_SH, m) (some (.int rO)) (rn_SH, mO)
  refine rx_p (L2 := [some (.ref 51), some (.int a1), some (.int a2), some (.int a3), none]) (S2 := [.ref 51]) (pc2 := 1) op83_0 rfl rfl ?_
  refine rx_gf (v := .int (m.1 51 10)) (pc2 := 4) op83_1 sp_51 rfl rfl rfl ?_
  refine rx_ic (v := 1) (pc2 := 5) op83_4 (by decide) rfl ?_
  refine ry_ic_ne (tgt := 25) (pc2 := 8) op83_5 (by decide) (by decide) rfl (fun b1 => ?_) (fun b1 => ?_)
  · have h := (if_pos b1).symm.trans h
    refine rx_p (L2 := [some (.ref 51), some (.int a1), some (.int a2), some (.int a3), none]) (S2 := [.int a3]) (pc2 := 9) op83_8 rfl rfl ?_
    obtain ⟨⟨r3, m2⟩, f4, h⟩ := rq_bind h
    try dsimp only at h
    refine ry_is (vs := [.int a3]) (T := []) (pc2 := 12) op83_9 (by decide) ms_84 (by decide) rfl rfl (Nat.le_of_ble_eq_true rfl) (Nat.le_of_ble_eq_true rfl) (se_rankOf_ok xs (by omega)  f4) rfl ?_
    show rn_R _ _ _ _ _ [.int r3] _ _ _
    refine rx_p (L2 := [some (.ref 51), some (.int a1), some (.int a2), some (.int a3), none]) (S2 := [.ref 51, .int r3]) (pc2 := 13) op83_12 rfl rfl ?_
    refine rx_gf (v := .int (m2.1 51 11)) (pc2 := 16) op83_13 sp_51 rfl rfl rfl ?_
    refine ry_ic_ge (tgt := 23) (pc2 := 19) op83_16 (by decide) (by decide) rfl (fun b5 => ?_) (fun b5 => ?_)
    · have h := (if_pos b5).symm.trans h
      refine rx_ic (v := 1) (pc2 := 20) op83_19 (by decide) rfl ?_
      refine ry_go (tgt := 24) op83_20 (by decide) (by decide) ?_
      obtain ⟨rfl, rfl⟩ := rq_ret h
      exact ry_rz (x := 1) op83_24 ms_83 rfl (by decide)
    · have h := (if_neg b5).symm.trans h
      refine rx_ic (v := 0) (pc2 := 24) op83_23 (by decide) rfl ?_
      obtain ⟨rfl, rfl⟩ := rq_ret h
      exact ry_rz (x := 0) op83_24 ms_83 rfl (by decide)
  · have h := (if_neg b1).symm.trans h
    refine rx_p (L2 := [some (.ref 51), some (.int a1), some (.int a2), some (.int a3), none]) (S2 := [.int a3]) (pc2 := 26) op83_25 rfl rfl ?_
    refine ry_if_eq (tgt := 31) (pc2 := 29) op83_26 (by decide) (by decide) rfl (fun b6 => ?_) (fun b6 => ?_)
    · have h := (if_pos b6).symm.trans h
      refine rx_p (L2 := [some (.ref 51), some (.int a1), some (.int a2), some (.int a3), none]) (S2 := [.ref 51]) (pc2 := 32) op83_31 rfl rfl ?_
      refine rx_gf (v := .int (m.1 51 10)) (pc2 := 35) op83_32 sp_51 rfl rfl rfl ?_
      refine ry_if_eq (tgt := 48) (pc2 := 38) op83_35 (by decide) (by decide) rfl (fun b7 => ?_) (fun b7 => ?_)
      · have h := (if_pos b7).symm.trans h
        refine rx_ic (v := 1) (pc2 := 49) op83_48 (by decide) rfl ?_
        obtain ⟨rfl, rfl⟩ := rq_ret h
        exact ry_rz (x := 1) op83_49 ms_83 rfl (by decide)
      · have h := (if_neg b7).symm.trans h
        refine rx_p (L2 := [some (.ref 51), some (.int a1), some (.int a2), some (.int a3), none]) (S2 := [.int a1]) (pc2 := 39) op83_38 rfl rfl ?_
        refine rx_p (L2 := [some (.ref 51), some (.int a1), some (.int a2), some (.int a3), none]) (S2 := [.ref 51, .int a1]) (pc2 := 40) op83_39 rfl rfl ?_
        refine rx_gf (v := .ref 69) (pc2 := 43) op83_40 sp_51 rfl rfl rfl ?_
        refine rx_ic (v := 0) (pc2 := 44) op83_43 (by decide) rfl ?_
        refine rx_ia (j := 0) (pc2 := 45) op83_44 (rn_shlt sp_69) sp_69 (by decide) (by decide) rfl ?_
        refine ry_ic_ge (tgt := 50) (pc2 := 48) op83_45 (by decide) (by decide) rfl (fun b8 => ?_) (fun b8 => ?_)
        · have h := (if_pos b8).symm.trans h
          refine rx_ic (v := 1) (pc2 := 49) op83_48 (by decide) rfl ?_
          obtain ⟨rfl, rfl⟩ := rq_ret h
          exact ry_rz (x := 1) op83_49 ms_83 rfl (by decide)
        · have h := (if_neg b8).symm.trans h
          refine rx_ic (v := 0) (pc2 := 51) op83_50 (by decide) rfl ?_
          refine rx_s (L2 := [some (.ref 51), some (.int a1), some (.int a2), some (.int a3), some (.int 0)]) (pc2 := 53) op83_51 rfl rfl rfl ?_
          obtain ⟨wf25, f25, h⟩ := rq_bind h
          refine se_promises_l53_ok xs hd (fun v0 m0 eq => ?_) (fun m19 eq => ?_) _ _ _ _  f25
          · subst eq
            try dsimp only at h
            cases h
            exact ⟨rfl, rfl⟩
          · subst eq
            try dsimp only at h
            intro o20 o21 o22 o23 o24
            refine rx_ic (v := 0) (pc2 := 98) op83_97 (by decide) rfl ?_
            obtain ⟨rfl, rfl⟩ := rq_ret h
            exact ry_rz (x := 0) op83_98 ms_83 rfl (by decide)
    · have h := (if_neg b6).symm.trans h
      refine rx_ic (v := 0) (pc2 := 30) op83_29 (by decide) rfl ?_
      obtain ⟨rfl, rfl⟩ := rq_ret h
      exact ry_rz (x := 0) op83_30 ms_83 rfl (by decide)
/-! ja_minL -/
theorem op86_0 : rn_op 86 0 = some (.lload_n 0, 1, 0, 0, 0) := by decide +kernel
theorem op86_1 : rn_op 86 1 = some (.lload_n 2, 1, 0, 0, 0) := by decide +kernel
theorem op86_2 : rn_op 86 2 = some (.lcmp, 1, 0, 0, 0) := by decide +kernel
theorem op86_3 : rn_op 86 3 = some (.ifCond .gt 7, 3, 0, 0, 0) := by decide +kernel
theorem op86_6 : rn_op 86 6 = some (.lload_n 0, 1, 0, 0, 0) := by decide +kernel
theorem op86_7 : rn_op 86 7 = some (.goto 4, 3, 0, 0, 0) := by decide +kernel
theorem op86_10 : rn_op 86 10 = some (.lload_n 2, 1, 0, 0, 0) := by decide +kernel
theorem op86_11 : rn_op 86 11 = some (.lreturn, 1, 0, 0, 0) := by decide +kernel
def ja_minL (n : Nat) (a0 : Int64) (a1 : Int64) (m : rn_Mem) : Option (Int64 × rn_Mem) :=
  if 0 < (lg_cmp a0 a1) then
    some (a1, m)
  else
    some (a0, m)
set_option maxHeartbeats 4000000 in
set_option maxRecDepth 20000 in
theorem ja_minL_ok (xs : List Int32) {d : Nat} (hd : 0 ≤ d) {n : Nat} {a0 : Int64} {a1 : Int64} {m mO : rn_Mem} {rO : Int64} (h : ja_minL n a0 a1 m = some (rO, mO)) : rn_R xs d 86 0 (rn_ent 4 [.long a0, .long a1]) [] (rn_SH, m) (some (.long rO)) (rn_SH, mO) := by
  unfold ja_minL at h
  show rn_R xs d 86 0 [some (.long a0), none, some (.long a1), none] [] (rn_SH, m) (some (.long rO)) (rn_SH, mO)
  refine rx_p (L2 := [some (.long a0), none, some (.long a1), none]) (S2 := [.long a0]) (pc2 := 1) op86_0 rfl rfl ?_
  refine rx_p (L2 := [some (.long a0), none, some (.long a1), none]) (S2 := [.long a1, .long a0]) (pc2 := 2) op86_1 rfl rfl ?_
  refine rx_p (L2 := [some (.long a0), none, some (.long a1), none]) (S2 := [.int (lg_cmp a0 a1)]) (pc2 := 3) op86_2 rfl rfl ?_
  refine ry_if_gt (tgt := 10) (pc2 := 6) op86_3 (by decide) (by decide) rfl (fun b1 => ?_) (fun b1 => ?_)
  · have h := (if_pos b1).symm.trans h
    refine rx_p (L2 := [some (.long a0), none, some (.long a1), none]) (S2 := [.long a1]) (pc2 := 11) op86_10 rfl rfl ?_
    obtain ⟨rfl, rfl⟩ := rq_ret h
    exact ry_rl op86_11 ms_86 rfl
  · have h := (if_neg b1).symm.trans h
    refine rx_p (L2 := [some (.long a0), none, some (.long a1), none]) (S2 := [.long a0]) (pc2 := 7) op86_6 rfl rfl ?_
    refine ry_go (tgt := 11) op86_7 (by decide) (by decide) ?_
    obtain ⟨rfl, rfl⟩ := rq_ret h
    exact ry_rl op86_11 ms_86 rfl
/-! se_notePlay -/
theorem op85_0 : rn_op 85 0 = some (.lconst 1, 1, 0, 0, 0) := by decide +kernel
theorem op85_1 : rn_op 85 1 = some (.lstore_n 2, 1, 0, 0, 0) := by decide +kernel
theorem op85_2 : rn_op 85 2 = some (.iload_n 1, 1, 0, 0, 0) := by decide +kernel
theorem op85_3 : rn_op 85 3 = some (.i2l, 1, 0, 0, 0) := by decide +kernel
theorem op85_4 : rn_op 85 4 = some (.lstore 4, 2, 0, 0, 0) := by decide +kernel
theorem op85_6 : rn_op 85 6 = some (.iconst 0, 1, 0, 0, 0) := by decide +kernel
theorem op85_7 : rn_op 85 7 = some (.istore 6, 2, 0, 0, 0) := by decide +kernel
theorem op85_9 : rn_op 85 9 = some (.iload 6, 2, 0, 0, 0) := by decide +kernel
theorem op85_11 : rn_op 85 11 = some (.aload_n 0, 1, 0, 0, 0) := by decide +kernel
theorem op85_12 : rn_op 85 12 = some (.getfield 12, 3, 4, 0, 3) := by decide +kernel
theorem op85_15 : rn_op 85 15 = some (.getfield 129, 3, 1, 2, 0) := by decide +kernel
theorem op85_18 : rn_op 85 18 = some (.if_icmp .ge 136, 3, 0, 0, 0) := by decide +kernel
theorem op85_21 : rn_op 85 21 = some (.aload_n 0, 1, 0, 0, 0) := by decide +kernel
theorem op85_22 : rn_op 85 22 = some (.getfield 34, 3, 4, 3, 3) := by decide +kernel
theorem op85_25 : rn_op 85 25 = some (.aload_n 0, 1, 0, 0, 0) := by decide +kernel
theorem op85_26 : rn_op 85 26 = some (.getfield 51, 3, 4, 8, 3) := by decide +kernel
theorem op85_29 : rn_op 85 29 = some (.iload 6, 2, 0, 0, 0) := by decide +kernel
theorem op85_31 : rn_op 85 31 = some (.iaload, 1, 0, 0, 0) := by decide +kernel
theorem op85_32 : rn_op 85 32 = some (.bipush 24, 2, 0, 0, 0) := by decide +kernel
theorem op85_34 : rn_op 85 34 = some (.idiv, 1, 0, 0, 0) := by decide +kernel
theorem op85_35 : rn_op 85 35 = some (.aaload, 1, 0, 0, 0) := by decide +kernel
theorem op85_36 : rn_op 85 36 = some (.astore 7, 2, 0, 0, 0) := by decide +kernel
theorem op85_38 : rn_op 85 38 = some (.aload_n 0, 1, 0, 0, 0) := by decide +kernel
theorem op85_39 : rn_op 85 39 = some (.getfield 51, 3, 4, 8, 3) := by decide +kernel
theorem op85_42 : rn_op 85 42 = some (.iload 6, 2, 0, 0, 0) := by decide +kernel
theorem op85_44 : rn_op 85 44 = some (.iaload, 1, 0, 0, 0) := by decide +kernel
theorem op85_45 : rn_op 85 45 = some (.bipush 24, 2, 0, 0, 0) := by decide +kernel
theorem op85_47 : rn_op 85 47 = some (.irem, 1, 0, 0, 0) := by decide +kernel
theorem op85_48 : rn_op 85 48 = some (.istore 8, 2, 0, 0, 0) := by decide +kernel
theorem op85_50 : rn_op 85 50 = some (.lload_n 2, 1, 0, 0, 0) := by decide +kernel
theorem op85_51 : rn_op 85 51 = some (.aload 7, 2, 0, 0, 0) := by decide +kernel
theorem op85_53 : rn_op 85 53 = some (.getfield 251, 3, 9, 7, 3) := by decide +kernel
theorem op85_56 : rn_op 85 56 = some (.iload 8, 2, 0, 0, 0) := by decide +kernel
theorem op85_58 : rn_op 85 58 = some (.iaload, 1, 0, 0, 0) := by decide +kernel
theorem op85_59 : rn_op 85 59 = some (.i2l, 1, 0, 0, 0) := by decide +kernel
theorem op85_60 : rn_op 85 60 = some (.lmul, 1, 0, 0, 0) := by decide +kernel
theorem op85_61 : rn_op 85 61 = some (.lstore_n 2, 1, 0, 0, 0) := by decide +kernel
theorem op85_62 : rn_op 85 62 = some (.lload 4, 2, 0, 0, 0) := by decide +kernel
theorem op85_64 : rn_op 85 64 = some (.iconst 4, 1, 0, 0, 0) := by decide +kernel
theorem op85_65 : rn_op 85 65 = some (.aload_n 0, 1, 0, 0, 0) := by decide +kernel
theorem op85_66 : rn_op 85 66 = some (.getfield 12, 3, 4, 0, 3) := by decide +kernel
theorem op85_69 : rn_op 85 69 = some (.getfield 101, 3, 1, 1, 0) := by decide +kernel
theorem op85_72 : rn_op 85 72 = some (.imul, 1, 0, 0, 0) := by decide +kernel
theorem op85_73 : rn_op 85 73 = some (.lshl, 1, 0, 0, 0) := by decide +kernel
theorem op85_74 : rn_op 85 74 = some (.aload 7, 2, 0, 0, 0) := by decide +kernel
theorem op85_76 : rn_op 85 76 = some (.getfield 254, 3, 9, 9, 3) := by decide +kernel
theorem op85_79 : rn_op 85 79 = some (.iload 8, 2, 0, 0, 0) := by decide +kernel
theorem op85_81 : rn_op 85 81 = some (.iaload, 1, 0, 0, 0) := by decide +kernel
theorem op85_82 : rn_op 85 82 = some (.i2l, 1, 0, 0, 0) := by decide +kernel
theorem op85_83 : rn_op 85 83 = some (.lor, 1, 0, 0, 0) := by decide +kernel
theorem op85_84 : rn_op 85 84 = some (.lstore 4, 2, 0, 0, 0) := by decide +kernel
theorem op85_86 : rn_op 85 86 = some (.aload_n 0, 1, 0, 0, 0) := by decide +kernel
theorem op85_87 : rn_op 85 87 = some (.dup, 1, 0, 0, 0) := by decide +kernel
theorem op85_88 : rn_op 85 88 = some (.getfield 89, 3, 4, 14, 1) := by decide +kernel
theorem op85_91 : rn_op 85 91 = some (.aload 7, 2, 0, 0, 0) := by decide +kernel
theorem op85_93 : rn_op 85 93 = some (.getfield 257, 3, 9, 8, 3) := by decide +kernel
theorem op85_96 : rn_op 85 96 = some (.iload 8, 2, 0, 0, 0) := by decide +kernel
theorem op85_98 : rn_op 85 98 = some (.laload, 1, 0, 0, 0) := by decide +kernel
theorem op85_99 : rn_op 85 99 = some (.lor, 1, 0, 0, 0) := by decide +kernel
theorem op85_100 : rn_op 85 100 = some (.putfield 89, 3, 4, 14, 1) := by decide +kernel
theorem op85_103 : rn_op 85 103 = some (.aload_n 0, 1, 0, 0, 0) := by decide +kernel
theorem op85_104 : rn_op 85 104 = some (.dup, 1, 0, 0, 0) := by decide +kernel
theorem op85_105 : rn_op 85 105 = some (.getfield 92, 3, 4, 15, 0) := by decide +kernel
theorem op85_108 : rn_op 85 108 = some (.iconst 1, 1, 0, 0, 0) := by decide +kernel
theorem op85_109 : rn_op 85 109 = some (.iconst 4, 1, 0, 0, 0) := by decide +kernel
theorem op85_110 : rn_op 85 110 = some (.iload 6, 2, 0, 0, 0) := by decide +kernel
theorem op85_112 : rn_op 85 112 = some (.imul, 1, 0, 0, 0) := by decide +kernel
theorem op85_113 : rn_op 85 113 = some (.aload 7, 2, 0, 0, 0) := by decide +kernel
theorem op85_115 : rn_op 85 115 = some (.getfield 202, 3, 9, 3, 3) := by decide +kernel
theorem op85_118 : rn_op 85 118 = some (.iload 8, 2, 0, 0, 0) := by decide +kernel
theorem op85_120 : rn_op 85 120 = some (.iaload, 1, 0, 0, 0) := by decide +kernel
theorem op85_121 : rn_op 85 121 = some (.iadd, 1, 0, 0, 0) := by decide +kernel
theorem op85_122 : rn_op 85 122 = some (.ishl, 1, 0, 0, 0) := by decide +kernel
theorem op85_123 : rn_op 85 123 = some (.ior, 1, 0, 0, 0) := by decide +kernel
theorem op85_124 : rn_op 85 124 = some (.putfield 92, 3, 4, 15, 0) := by decide +kernel
theorem op85_127 : rn_op 85 127 = some (.aload_n 0, 1, 0, 0, 0) := by decide +kernel
theorem op85_128 : rn_op 85 128 = some (.dup, 1, 0, 0, 0) := by decide +kernel
theorem op85_129 : rn_op 85 129 = some (.getfield 95, 3, 4, 16, 0) := by decide +kernel
theorem op85_132 : rn_op 85 132 = some (.iconst 1, 1, 0, 0, 0) := by decide +kernel
theorem op85_133 : rn_op 85 133 = some (.iconst 4, 1, 0, 0, 0) := by decide +kernel
theorem op85_134 : rn_op 85 134 = some (.iload 6, 2, 0, 0, 0) := by decide +kernel
theorem op85_136 : rn_op 85 136 = some (.imul, 1, 0, 0, 0) := by decide +kernel
theorem op85_137 : rn_op 85 137 = some (.aload 7, 2, 0, 0, 0) := by decide +kernel
theorem op85_139 : rn_op 85 139 = some (.getfield 261, 3, 9, 0, 0) := by decide +kernel
theorem op85_142 : rn_op 85 142 = some (.iadd, 1, 0, 0, 0) := by decide +kernel
theorem op85_143 : rn_op 85 143 = some (.ishl, 1, 0, 0, 0) := by decide +kernel
theorem op85_144 : rn_op 85 144 = some (.ior, 1, 0, 0, 0) := by decide +kernel
theorem op85_145 : rn_op 85 145 = some (.putfield 95, 3, 4, 16, 0) := by decide +kernel
theorem op85_148 : rn_op 85 148 = some (.iinc 6 1, 3, 0, 0, 0) := by decide +kernel
theorem op85_151 : rn_op 85 151 = some (.goto (-142), 3, 0, 0, 0) := by decide +kernel
theorem op85_154 : rn_op 85 154 = some (.aload_n 0, 1, 0, 0, 0) := by decide +kernel
theorem op85_155 : rn_op 85 155 = some (.aload_n 0, 1, 0, 0, 0) := by decide +kernel
theorem op85_156 : rn_op 85 156 = some (.getfield 80, 3, 4, 12, 1) := by decide +kernel
theorem op85_159 : rn_op 85 159 = some (.lconst 0, 1, 0, 0, 0) := by decide +kernel
theorem op85_160 : rn_op 85 160 = some (.lcmp, 1, 0, 0, 0) := by decide +kernel
theorem op85_161 : rn_op 85 161 = some (.ifCond .ne 8, 3, 0, 0, 0) := by decide +kernel
theorem op85_164 : rn_op 85 164 = some (.lload 4, 2, 0, 0, 0) := by decide +kernel
theorem op85_166 : rn_op 85 166 = some (.goto 12, 3, 0, 0, 0) := by decide +kernel
theorem op85_169 : rn_op 85 169 = some (.aload_n 0, 1, 0, 0, 0) := by decide +kernel
theorem op85_170 : rn_op 85 170 = some (.getfield 86, 3, 4, 13, 1) := by decide +kernel
theorem op85_173 : rn_op 85 173 = some (.lload 4, 2, 0, 0, 0) := by decide +kernel
theorem op85_175 : rn_op 85 175 = some (.invokestatic 264, 3, 86, 2, 0) := by decide +kernel
theorem op85_178 : rn_op 85 178 = some (.putfield 86, 3, 4, 13, 1) := by decide +kernel
theorem op85_181 : rn_op 85 181 = some (.aload_n 0, 1, 0, 0, 0) := by decide +kernel
theorem op85_182 : rn_op 85 182 = some (.dup, 1, 0, 0, 0) := by decide +kernel
theorem op85_183 : rn_op 85 183 = some (.getfield 80, 3, 4, 12, 1) := by decide +kernel
theorem op85_186 : rn_op 85 186 = some (.lload_n 2, 1, 0, 0, 0) := by decide +kernel
theorem op85_187 : rn_op 85 187 = some (.ladd, 1, 0, 0, 0) := by decide +kernel
theorem op85_188 : rn_op 85 188 = some (.putfield 80, 3, 4, 12, 1) := by decide +kernel
theorem op85_191 : rn_op 85 191 = some (.return_, 1, 0, 0, 0) := by decide +kernel
def se_notePlay_l9  : Nat → Int64 → Int64 → Int32 → rn_Mem → Option (Int64 × Int64 × rn_Mem)
  | 0, _, _, _, _ => none
  | n + 1, a2, a4, a6, m =>
    if a6 < (m.1 52 2) then
      if rn_in a6 4 = true then
        if rn_in ((m.1 67 a6.toNatClampNeg) / 24) 4 = true then
          if rn_in a6 4 = true then
            (some (rn_rem (m.1 67 a6.toNatClampNeg) 24)).bind fun (x6 : Int32) =>
            if rn_in x6 24 = true then
              (some (a2 * ((m.1 ((70 + 8 * ((m.1 67 a6.toNatClampNeg) / 24).toNatClampNeg) + 5) x6.toNatClampNeg).toInt64))).bind fun (x9 : Int64) =>
              if rn_in x6 24 = true then
                (some ((a4 <<< (((4 : Int32) * (m.1 52 1)).toInt64 &&& 63)) ||| ((m.1 ((70 + 8 * ((m.1 67 a6.toNatClampNeg) / 24).toNatClampNeg) + 7) x6.toNatClampNeg).toInt64))).bind fun (x11 : Int64) =>
                if rn_in x6 24 = true then
                  (some (rm_j m 51 14 ((m.2 51 14) ||| (m.2 ((70 + 8 * ((m.1 67 a6.toNatClampNeg) / 24).toNatClampNeg) + 6) x6.toNatClampNeg)))).bind fun (m13 : rn_Mem) =>
                  if rn_in x6 24 = true then
                    (some (rm_i m13 51 15 ((m13.1 51 15) ||| ((1 : Int32) <<< ((((4 : Int32) * a6) + (m13.1 ((70 + 8 * ((m.1 67 a6.toNatClampNeg) / 24).toNatClampNeg) + 1) x6.toNatClampNeg)) &&& 31))))).bind fun (m15 : rn_Mem) =>
                    (some (rm_i m15 51 16 ((m15.1 51 16) ||| ((1 : Int32) <<< ((((4 : Int32) * a6) + (m15.1 (70 + 8 * ((m.1 67 a6.toNatClampNeg) / 24).toNatClampNeg) 0)) &&& 31))))).bind fun (m16 : rn_Mem) =>
                    (some (a6 + 1)).bind fun (x17 : Int32) =>
                    se_notePlay_l9 n x9 x11 x17 m16
                  else none
                else none
              else none
            else none
          else none
        else none
      else none
    else
      some (a2, a4, m)
def se_notePlay (n : Nat) (a1 : Int32) (m : rn_Mem) : Option (rn_Mem) :=
  (some (a1.toInt64)).bind fun (x1 : Int64) =>
  (se_notePlay_l9 n 1 x1 0 m).bind fun (x20, x22, m18) =>
  (show Option (Int64 × rn_Mem) from
    if (lg_cmp (m18.2 51 12) 0) = 0 then
      some (x22, m18)
    else
      (ja_minL n (m18.2 51 13) x22 m18).bind fun (r29, m28) =>
      some (r29, m28)).bind fun (x38, m39) =>
  (some (rm_j m39 51 13 x38)).bind fun (m40 : rn_Mem) =>
  (some (rm_j m40 51 12 ((m40.2 51 12) + x20))).bind fun (m41 : rn_Mem) =>
  some m41
set_option maxHeartbeats 4000000 in
set_option maxRecDepth 20000 in
theorem se_notePlay_l9_ok (xs : List Int32) {d : Nat} (hd : 1 ≤ d + 1) {r : Option Value} {τ : rn_H} {out : Int64 × Int64 × rn_Mem} (hr : ∀ (z2 : Int64) (z4 : Int64) (mO : rn_Mem), out = (z2, z4, mO) → ∀ (o1 o3 o5 o6 o7 o8 : Option Value), rn_R xs (d + 1) 85 154 [some (.ref 51), o1, some (.long z2), o3, some (.long z4), o5, o6, o7, o8] [] (rn_SH, mO) r τ) : ∀ (n : Nat) (a2 : Int64) (a4 : Int64) (a6 : Int32) (o1 o3 o5 o7 o8 : Option Value) (m : rn_Mem), se_notePlay_l9 n a2 a4 a6 m = some out → rn_R xs (d + 1) 85 9 [some (.ref 51), o1, some (.long a2), o3, some (.long a4), o5, some (.int a6), o7, o8] [] (rn_SH, m) r τ := by
  intro n
  induction n with
  | zero =>
    intro _ _ _ _ _ _ _ _ _ h
    cases h
  | succ n ih =>
    intro a2 a4 a6 o1 o3 o5 o7 o8 m h
    unfold se_notePlay_l9 at h
    try dsimp only at h
    refine rx_p (L2 := [some (.ref 51), o1, some (.long a2), o3, some (.long a4), o5, some (.int a6), o7, o8]) (S2 := [.int a6]) (pc2 := 11) op85_9 rfl rfl ?_
    refine rx_p (L2 := [some (.ref 51), o1, some (.long a2), o3, some (.long a4), o5, some (.int a6), o7, o8]) (S2 := [.ref 51, .int a6]) (pc2 := 12) op85_11 rfl rfl ?_
    refine rx_gf (v := .ref 52) (pc2 := 15) op85_12 sp_51 rfl rfl rfl ?_
    refine rx_gf (v := .int (m.1 52 2)) (pc2 := 18) op85_15 sp_52 rfl rfl rfl ?_
    refine ry_ic_ge (tgt := 154) (pc2 := 21) op85_18 (by decide) (by decide) rfl (fun b2 => ?_) (fun b2 => ?_)
    · have h := (if_pos b2).symm.trans h
      refine rx_p (L2 := [some (.ref 51), o1, some (.long a2), o3, some (.long a4), o5, some (.int a6), o7, o8]) (S2 := [.ref 51]) (pc2 := 22) op85_21 rfl rfl ?_
      refine rx_gf (v := .ref 62) (pc2 := 25) op85_22 sp_51 rfl rfl rfl ?_
      refine rx_p (L2 := [some (.ref 51), o1, some (.long a2), o3, some (.long a4), o5, some (.int a6), o7, o8]) (S2 := [.ref 51, .ref 62]) (pc2 := 26) op85_25 rfl rfl ?_
      refine rx_gf (v := .ref 67) (pc2 := 29) op85_26 sp_51 rfl rfl rfl ?_
      refine rx_p (L2 := [some (.ref 51), o1, some (.long a2), o3, some (.long a4), o5, some (.int a6), o7, o8]) (S2 := [.int a6, .ref 67, .ref 62]) (pc2 := 31) op85_29 rfl rfl ?_
      obtain ⟨k3, h⟩ := rq_chk h
      refine rx_ia (pc2 := 32) op85_31 (rn_shlt sp_67) sp_67 k3 rfl rfl ?_
      refine rx_bp (v := 24) (pc2 := 34) op85_32 (by decide) rfl ?_
      refine rx_div (v := (m.1 67 a6.toNatClampNeg) / 24) (pc2 := 35) op85_34 (by decide) rfl rfl ?_
      obtain ⟨k4, h⟩ := rq_chk h
      refine rx_aa (q := (70 + 8 * ((m.1 67 a6.toNatClampNeg) / 24).toNatClampNeg)) (pc2 := 36) op85_35 sp_62 (by decide) k4 (rn_ways_at k4) rfl ?_
      refine rx_p (L2 := [some (.ref 51), o1, some (.long a2), o3, some (.long a4), o5, some (.int a6), some (.ref (70 + 8 * ((m.1 67 a6.toNatClampNeg) / 24).toNatClampNeg)), o8]) (S2 := []) (pc2 := 38) op85_36 rfl rfl ?_
      refine rx_p (L2 := [some (.ref 51), o1, some (.long a2), o3, some (.long a4), o5, some (.int a6), some (.ref (70 + 8 * ((m.1 67 a6.toNatClampNeg) / 24).toNatClampNeg)), o8]) (S2 := [.ref 51]) (pc2 := 39) op85_38 rfl rfl ?_
      refine rx_gf (v := .ref 67) (pc2 := 42) op85_39 sp_51 rfl rfl rfl ?_
      refine rx_p (L2 := [some (.ref 51), o1, some (.long a2), o3, some (.long a4), o5, some (.int a6), some (.ref (70 + 8 * ((m.1 67 a6.toNatClampNeg) / 24).toNatClampNeg)), o8]) (S2 := [.int a6, .ref 67]) (pc2 := 44) op85_42 rfl rfl ?_
      obtain ⟨k5, h⟩ := rq_chk h
      refine rx_ia (pc2 := 45) op85_44 (rn_shlt sp_67) sp_67 k5 rfl rfl ?_
      refine rx_bp (v := 24) (pc2 := 47) op85_45 (by decide) rfl ?_
      refine rx_rem (v := rn_rem (m.1 67 a6.toNatClampNeg) 24) (pc2 := 48) op85_47 (by decide) rfl rfl ?_
      obtain ⟨x6, ex6, h⟩ := rq_bv h
      refine rx_s (v := x6) (L2 := [some (.ref 51), o1, some (.long a2), o3, some (.long a4), o5, some (.int a6), some (.ref (70 + 8 * ((m.1 67 a6.toNatClampNeg) / 24).toNatClampNeg)), some (.int x6)]) (pc2 := 50) op85_48 ex6 rfl rfl ?_
      refine rx_p (L2 := [some (.ref 51), o1, some (.long a2), o3, some (.long a4), o5, some (.int a6), some (.ref (70 + 8 * ((m.1 67 a6.toNatClampNeg) / 24).toNatClampNeg)), some (.int x6)]) (S2 := [.long a2]) (pc2 := 51) op85_50 rfl rfl ?_
      refine rx_p (L2 := [some (.ref 51), o1, some (.long a2), o3, some (.long a4), o5, some (.int a6), some (.ref (70 + 8 * ((m.1 67 a6.toNatClampNeg) / 24).toNatClampNeg)), some (.int x6)]) (S2 := [.ref (70 + 8 * ((m.1 67 a6.toNatClampNeg) / 24).toNatClampNeg), .long a2]) (pc2 := 53) op85_51 rfl rfl ?_
      refine rx_gf (v := .ref ((70 + 8 * ((m.1 67 a6.toNatClampNeg) / 24).toNatClampNeg) + 5)) (pc2 := 56) op85_53 ((rn_ways_asm k4).1) rfl rfl rfl ?_
      refine rx_p (L2 := [some (.ref 51), o1, some (.long a2), o3, some (.long a4), o5, some (.int a6), some (.ref (70 + 8 * ((m.1 67 a6.toNatClampNeg) / 24).toNatClampNeg)), some (.int x6)]) (S2 := [.int x6, .ref ((70 + 8 * ((m.1 67 a6.toNatClampNeg) / 24).toNatClampNeg) + 5), .long a2]) (pc2 := 58) op85_56 rfl rfl ?_
      obtain ⟨k7, h⟩ := rq_chk h
      refine rx_ia (pc2 := 59) op85_58 (rn_shlt ((rn_ways_asm k4).2.2.2.2.2.1)) ((rn_ways_asm k4).2.2.2.2.2.1) k7 rfl rfl ?_
      refine rx_p (L2 := [some (.ref 51), o1, some (.long a2), o3, some (.long a4), o5, some (.int a6), some (.ref (70 + 8 * ((m.1 67 a6.toNatClampNeg) / 24).toNatClampNeg)), some (.int x6)]) (S2 := [.long ((m.1 ((70 + 8 * ((m.1 67 a6.toNatClampNeg) / 24).toNatClampNeg) + 5) x6.toNatClampNeg).toInt64), .long a2]) (pc2 := 60) op85_59 rfl rfl ?_
      refine rx_p (L2 := [some (.ref 51), o1, some (.long a2), o3, some (.long a4), o5, some (.int a6), some (.ref (70 + 8 * ((m.1 67 a6.toNatClampNeg) / 24).toNatClampNeg)), some (.int x6)]) (S2 := [.long (a2 * ((m.1 ((70 + 8 * ((m.1 67 a6.toNatClampNeg) / 24).toNatClampNeg) + 5) x6.toNatClampNeg).toInt64))]) (pc2 := 61) op85_60 rfl rfl ?_
      obtain ⟨x9, ex9, h⟩ := rq_bv h
      refine rx_sld (v := x9) (j := 1) (pc2 := 62) op85_61 rfl ex9 (Nat.le_of_ble_eq_true rfl) rfl (fun o8 => ?_)
      show rn_R _ _ _ _ [some (.ref 51), o8, some (.long x9), none, some (.long a4), o5, some (.int a6), some (.ref (70 + 8 * ((m.1 67 a6.toNatClampNeg) / 24).toNatClampNeg)), some (.int x6)] _ _ _ _
      refine rx_p (L2 := [some (.ref 51), o8, some (.long x9), none, some (.long a4), o5, some (.int a6), some (.ref (70 + 8 * ((m.1 67 a6.toNatClampNeg) / 24).toNatClampNeg)), some (.int x6)]) (S2 := [.long a4]) (pc2 := 64) op85_62 rfl rfl ?_
      refine rx_ic (v := 4) (pc2 := 65) op85_64 (by decide) rfl ?_
      refine rx_p (L2 := [some (.ref 51), o8, some (.long x9), none, some (.long a4), o5, some (.int a6), some (.ref (70 + 8 * ((m.1 67 a6.toNatClampNeg) / 24).toNatClampNeg)), some (.int x6)]) (S2 := [.ref 51, .int 4, .long a4]) (pc2 := 66) op85_65 rfl rfl ?_
      refine rx_gf (v := .ref 52) (pc2 := 69) op85_66 sp_51 rfl rfl rfl ?_
      refine rx_gf (v := .int (m.1 52 1)) (pc2 := 72) op85_69 sp_52 rfl rfl rfl ?_
      refine rx_p (L2 := [some (.ref 51), o8, some (.long x9), none, some (.long a4), o5, some (.int a6), some (.ref (70 + 8 * ((m.1 67 a6.toNatClampNeg) / 24).toNatClampNeg)), some (.int x6)]) (S2 := [.int ((4 : Int32) * (m.1 52 1)), .long a4]) (pc2 := 73) op85_72 rfl rfl ?_
      refine rx_p (L2 := [some (.ref 51), o8, some (.long x9), none, some (.long a4), o5, some (.int a6), some (.ref (70 + 8 * ((m.1 67 a6.toNatClampNeg) / 24).toNatClampNeg)), some (.int x6)]) (S2 := [.long (a4 <<< (((4 : Int32) * (m.1 52 1)).toInt64 &&& 63))]) (pc2 := 74) op85_73 rfl rfl ?_
      refine rx_p (L2 := [some (.ref 51), o8, some (.long x9), none, some (.long a4), o5, some (.int a6), some (.ref (70 + 8 * ((m.1 67 a6.toNatClampNeg) / 24).toNatClampNeg)), some (.int x6)]) (S2 := [.ref (70 + 8 * ((m.1 67 a6.toNatClampNeg) / 24).toNatClampNeg), .long (a4 <<< (((4 : Int32) * (m.1 52 1)).toInt64 &&& 63))]) (pc2 := 76) op85_74 rfl rfl ?_
      refine rx_gf (v := .ref ((70 + 8 * ((m.1 67 a6.toNatClampNeg) / 24).toNatClampNeg) + 7)) (pc2 := 79) op85_76 ((rn_ways_asm k4).1) rfl rfl rfl ?_
      refine rx_p (L2 := [some (.ref 51), o8, some (.long x9), none, some (.long a4), o5, some (.int a6), some (.ref (70 + 8 * ((m.1 67 a6.toNatClampNeg) / 24).toNatClampNeg)), some (.int x6)]) (S2 := [.int x6, .ref ((70 + 8 * ((m.1 67 a6.toNatClampNeg) / 24).toNatClampNeg) + 7), .long (a4 <<< (((4 : Int32) * (m.1 52 1)).toInt64 &&& 63))]) (pc2 := 81) op85_79 rfl rfl ?_
      obtain ⟨k10, h⟩ := rq_chk h
      refine rx_ia (pc2 := 82) op85_81 (rn_shlt ((rn_ways_asm k4).2.2.2.2.2.2.2)) ((rn_ways_asm k4).2.2.2.2.2.2.2) k10 rfl rfl ?_
      refine rx_p (L2 := [some (.ref 51), o8, some (.long x9), none, some (.long a4), o5, some (.int a6), some (.ref (70 + 8 * ((m.1 67 a6.toNatClampNeg) / 24).toNatClampNeg)), some (.int x6)]) (S2 := [.long ((m.1 ((70 + 8 * ((m.1 67 a6.toNatClampNeg) / 24).toNatClampNeg) + 7) x6.toNatClampNeg).toInt64), .long (a4 <<< (((4 : Int32) * (m.1 52 1)).toInt64 &&& 63))]) (pc2 := 83) op85_82 rfl rfl ?_
      refine rx_p (L2 := [some (.ref 51), o8, some (.long x9), none, some (.long a4), o5, some (.int a6), some (.ref (70 + 8 * ((m.1 67 a6.toNatClampNeg) / 24).toNatClampNeg)), some (.int x6)]) (S2 := [.long ((a4 <<< (((4 : Int32) * (m.1 52 1)).toInt64 &&& 63)) ||| ((m.1 ((70 + 8 * ((m.1 67 a6.toNatClampNeg) / 24).toNatClampNeg) + 7) x6.toNatClampNeg).toInt64))]) (pc2 := 84) op85_83 rfl rfl ?_
      obtain ⟨x11, ex11, h⟩ := rq_bv h
      refine rx_sl (v := x11) (L2 := [some (.ref 51), o8, some (.long x9), none, some (.long x11), none, some (.int a6), some (.ref (70 + 8 * ((m.1 67 a6.toNatClampNeg) / 24).toNatClampNeg)), some (.int x6)]) (pc2 := 86) op85_84 ex11 rfl rfl ?_
      refine rx_p (L2 := [some (.ref 51), o8, some (.long x9), none, some (.long x11), none, some (.int a6), some (.ref (70 + 8 * ((m.1 67 a6.toNatClampNeg) / 24).toNatClampNeg)), some (.int x6)]) (S2 := [.ref 51]) (pc2 := 87) op85_86 rfl rfl ?_
      refine rx_p (L2 := [some (.ref 51), o8, some (.long x9), none, some (.long x11), none, some (.int a6), some (.ref (70 + 8 * ((m.1 67 a6.toNatClampNeg) / 24).toNatClampNeg)), some (.int x6)]) (S2 := [.ref 51, .ref 51]) (pc2 := 88) op85_87 rfl rfl ?_
      refine rx_gf (v := .long (m.2 51 14)) (pc2 := 91) op85_88 sp_51 rfl rfl rfl ?_
      refine rx_p (L2 := [some (.ref 51), o8, some (.long x9), none, some (.long x11), none, some (.int a6), some (.ref (70 + 8 * ((m.1 67 a6.toNatClampNeg) / 24).toNatClampNeg)), some (.int x6)]) (S2 := [.ref (70 + 8 * ((m.1 67 a6.toNatClampNeg) / 24).toNatClampNeg), .long (m.2 51 14), .ref 51]) (pc2 := 93) op85_91 rfl rfl ?_
      refine rx_gf (v := .ref ((70 + 8 * ((m.1 67 a6.toNatClampNeg) / 24).toNatClampNeg) + 6)) (pc2 := 96) op85_93 ((rn_ways_asm k4).1) rfl rfl rfl ?_
      refine rx_p (L2 := [some (.ref 51), o8, some (.long x9), none, some (.long x11), none, some (.int a6), some (.ref (70 + 8 * ((m.1 67 a6.toNatClampNeg) / 24).toNatClampNeg)), some (.int x6)]) (S2 := [.int x6, .ref ((70 + 8 * ((m.1 67 a6.toNatClampNeg) / 24).toNatClampNeg) + 6), .long (m.2 51 14), .ref 51]) (pc2 := 98) op85_96 rfl rfl ?_
      obtain ⟨k12, h⟩ := rq_chk h
      refine rx_la (pc2 := 99) op85_98 ((rn_ways_asm k4).2.2.2.2.2.2.1) k12 rfl rfl ?_
      refine rx_p (L2 := [some (.ref 51), o8, some (.long x9), none, some (.long x11), none, some (.int a6), some (.ref (70 + 8 * ((m.1 67 a6.toNatClampNeg) / 24).toNatClampNeg)), some (.int x6)]) (S2 := [.long ((m.2 51 14) ||| (m.2 ((70 + 8 * ((m.1 67 a6.toNatClampNeg) / 24).toNatClampNeg) + 6) x6.toNatClampNeg)), .ref 51]) (pc2 := 100) op85_99 rfl rfl ?_
      obtain ⟨m13, em13, h⟩ := rq_bv h
      refine rx_pj (m2 := m13) (pc2 := 103) op85_100 sp_51 rfl em13 rfl ?_
      refine rx_p (L2 := [some (.ref 51), o8, some (.long x9), none, some (.long x11), none, some (.int a6), some (.ref (70 + 8 * ((m.1 67 a6.toNatClampNeg) / 24).toNatClampNeg)), some (.int x6)]) (S2 := [.ref 51]) (pc2 := 104) op85_103 rfl rfl ?_
      refine rx_p (L2 := [some (.ref 51), o8, some (.long x9), none, some (.long x11), none, some (.int a6), some (.ref (70 + 8 * ((m.1 67 a6.toNatClampNeg) / 24).toNatClampNeg)), some (.int x6)]) (S2 := [.ref 51, .ref 51]) (pc2 := 105) op85_104 rfl rfl ?_
      refine rx_gf (v := .int (m13.1 51 15)) (pc2 := 108) op85_105 sp_51 rfl rfl rfl ?_
      refine rx_ic (v := 1) (pc2 := 109) op85_108 (by decide) rfl ?_
      refine rx_ic (v := 4) (pc2 := 110) op85_109 (by decide) rfl ?_
      refine rx_p (L2 := [some (.ref 51), o8, some (.long x9), none, some (.long x11), none, some (.int a6), some (.ref (70 + 8 * ((m.1 67 a6.toNatClampNeg) / 24).toNatClampNeg)), some (.int x6)]) (S2 := [.int a6, .int 4, .int 1, .int (m13.1 51 15), .ref 51]) (pc2 := 112) op85_110 rfl rfl ?_
      refine rx_p (L2 := [some (.ref 51), o8, some (.long x9), none, some (.long x11), none, some (.int a6), some (.ref (70 + 8 * ((m.1 67 a6.toNatClampNeg) / 24).toNatClampNeg)), some (.int x6)]) (S2 := [.int ((4 : Int32) * a6), .int 1, .int (m13.1 51 15), .ref 51]) (pc2 := 113) op85_112 rfl rfl ?_
      refine rx_p (L2 := [some (.ref 51), o8, some (.long x9), none, some (.long x11), none, some (.int a6), some (.ref (70 + 8 * ((m.1 67 a6.toNatClampNeg) / 24).toNatClampNeg)), some (.int x6)]) (S2 := [.ref (70 + 8 * ((m.1 67 a6.toNatClampNeg) / 24).toNatClampNeg), .int ((4 : Int32) * a6), .int 1, .int (m13.1 51 15), .ref 51]) (pc2 := 115) op85_113 rfl rfl ?_
      refine rx_gf (v := .ref ((70 + 8 * ((m.1 67 a6.toNatClampNeg) / 24).toNatClampNeg) + 1)) (pc2 := 118) op85_115 ((rn_ways_asm k4).1) rfl rfl rfl ?_
      refine rx_p (L2 := [some (.ref 51), o8, some (.long x9), none, some (.long x11), none, some (.int a6), some (.ref (70 + 8 * ((m.1 67 a6.toNatClampNeg) / 24).toNatClampNeg)), some (.int x6)]) (S2 := [.int x6, .ref ((70 + 8 * ((m.1 67 a6.toNatClampNeg) / 24).toNatClampNeg) + 1), .int ((4 : Int32) * a6), .int 1, .int (m13.1 51 15), .ref 51]) (pc2 := 120) op85_118 rfl rfl ?_
      obtain ⟨k14, h⟩ := rq_chk h
      refine rx_ia (pc2 := 121) op85_120 (rn_shlt ((rn_ways_asm k4).2.1)) ((rn_ways_asm k4).2.1) k14 rfl rfl ?_
      refine rx_p (L2 := [some (.ref 51), o8, some (.long x9), none, some (.long x11), none, some (.int a6), some (.ref (70 + 8 * ((m.1 67 a6.toNatClampNeg) / 24).toNatClampNeg)), some (.int x6)]) (S2 := [.int (((4 : Int32) * a6) + (m13.1 ((70 + 8 * ((m.1 67 a6.toNatClampNeg) / 24).toNatClampNeg) + 1) x6.toNatClampNeg)), .int 1, .int (m13.1 51 15), .ref 51]) (pc2 := 122) op85_121 rfl rfl ?_
      refine rx_p (L2 := [some (.ref 51), o8, some (.long x9), none, some (.long x11), none, some (.int a6), some (.ref (70 + 8 * ((m.1 67 a6.toNatClampNeg) / 24).toNatClampNeg)), some (.int x6)]) (S2 := [.int ((1 : Int32) <<< ((((4 : Int32) * a6) + (m13.1 ((70 + 8 * ((m.1 67 a6.toNatClampNeg) / 24).toNatClampNeg) + 1) x6.toNatClampNeg)) &&& 31)), .int (m13.1 51 15), .ref 51]) (pc2 := 123) op85_122 rfl rfl ?_
      refine rx_p (L2 := [some (.ref 51), o8, some (.long x9), none, some (.long x11), none, some (.int a6), some (.ref (70 + 8 * ((m.1 67 a6.toNatClampNeg) / 24).toNatClampNeg)), some (.int x6)]) (S2 := [.int ((m13.1 51 15) ||| ((1 : Int32) <<< ((((4 : Int32) * a6) + (m13.1 ((70 + 8 * ((m.1 67 a6.toNatClampNeg) / 24).toNatClampNeg) + 1) x6.toNatClampNeg)) &&& 31))), .ref 51]) (pc2 := 124) op85_123 rfl rfl ?_
      obtain ⟨m15, em15, h⟩ := rq_bv h
      refine rx_pf (m2 := m15) (pc2 := 127) op85_124 sp_51 rfl em15 rfl ?_
      refine rx_p (L2 := [some (.ref 51), o8, some (.long x9), none, some (.long x11), none, some (.int a6), some (.ref (70 + 8 * ((m.1 67 a6.toNatClampNeg) / 24).toNatClampNeg)), some (.int x6)]) (S2 := [.ref 51]) (pc2 := 128) op85_127 rfl rfl ?_
      refine rx_p (L2 := [some (.ref 51), o8, some (.long x9), none, some (.long x11), none, some (.int a6), some (.ref (70 + 8 * ((m.1 67 a6.toNatClampNeg) / 24).toNatClampNeg)), some (.int x6)]) (S2 := [.ref 51, .ref 51]) (pc2 := 129) op85_128 rfl rfl ?_
      refine rx_gf (v := .int (m15.1 51 16)) (pc2 := 132) op85_129 sp_51 rfl rfl rfl ?_
      refine rx_ic (v := 1) (pc2 := 133) op85_132 (by decide) rfl ?_
      refine rx_ic (v := 4) (pc2 := 134) op85_133 (by decide) rfl ?_
      refine rx_p (L2 := [some (.ref 51), o8, some (.long x9), none, some (.long x11), none, some (.int a6), some (.ref (70 + 8 * ((m.1 67 a6.toNatClampNeg) / 24).toNatClampNeg)), some (.int x6)]) (S2 := [.int a6, .int 4, .int 1, .int (m15.1 51 16), .ref 51]) (pc2 := 136) op85_134 rfl rfl ?_
      refine rx_p (L2 := [some (.ref 51), o8, some (.long x9), none, some (.long x11), none, some (.int a6), some (.ref (70 + 8 * ((m.1 67 a6.toNatClampNeg) / 24).toNatClampNeg)), some (.int x6)]) (S2 := [.int ((4 : Int32) * a6), .int 1, .int (m15.1 51 16), .ref 51]) (pc2 := 137) op85_136 rfl rfl ?_
      refine rx_p (L2 := [some (.ref 51), o8, some (.long x9), none, some (.long x11), none, some (.int a6), some (.ref (70 + 8 * ((m.1 67 a6.toNatClampNeg) / 24).toNatClampNeg)), some (.int x6)]) (S2 := [.ref (70 + 8 * ((m.1 67 a6.toNatClampNeg) / 24).toNatClampNeg), .int ((4 : Int32) * a6), .int 1, .int (m15.1 51 16), .ref 51]) (pc2 := 139) op85_137 rfl rfl ?_
      refine rx_gf (v := .int (m15.1 (70 + 8 * ((m.1 67 a6.toNatClampNeg) / 24).toNatClampNeg) 0)) (pc2 := 142) op85_139 ((rn_ways_asm k4).1) rfl rfl rfl ?_
      refine rx_p (L2 := [some (.ref 51), o8, some (.long x9), none, some (.long x11), none, some (.int a6), some (.ref (70 + 8 * ((m.1 67 a6.toNatClampNeg) / 24).toNatClampNeg)), some (.int x6)]) (S2 := [.int (((4 : Int32) * a6) + (m15.1 (70 + 8 * ((m.1 67 a6.toNatClampNeg) / 24).toNatClampNeg) 0)), .int 1, .int (m15.1 51 16), .ref 51]) (pc2 := 143) op85_142 rfl rfl ?_
      refine rx_p (L2 := [some (.ref 51), o8, some (.long x9), none, some (.long x11), none, some (.int a6), some (.ref (70 + 8 * ((m.1 67 a6.toNatClampNeg) / 24).toNatClampNeg)), some (.int x6)]) (S2 := [.int ((1 : Int32) <<< ((((4 : Int32) * a6) + (m15.1 (70 + 8 * ((m.1 67 a6.toNatClampNeg) / 24).toNatClampNeg) 0)) &&& 31)), .int (m15.1 51 16), .ref 51]) (pc2 := 144) op85_143 rfl rfl ?_
      refine rx_p (L2 := [some (.ref 51), o8, some (.long x9), none, some (.long x11), none, some (.int a6), some (.ref (70 + 8 * ((m.1 67 a6.toNatClampNeg) / 24).toNatClampNeg)), some (.int x6)]) (S2 := [.int ((m15.1 51 16) ||| ((1 : Int32) <<< ((((4 : Int32) * a6) + (m15.1 (70 + 8 * ((m.1 67 a6.toNatClampNeg) / 24).toNatClampNeg) 0)) &&& 31))), .ref 51]) (pc2 := 145) op85_144 rfl rfl ?_
      obtain ⟨m16, em16, h⟩ := rq_bv h
      refine rx_pf (m2 := m16) (pc2 := 148) op85_145 sp_51 rfl em16 rfl ?_
      obtain ⟨x17, ex17, h⟩ := rq_bv h
      refine rx_inc (w := 1) (v := x17) (L2 := [some (.ref 51), o8, some (.long x9), none, some (.long x11), none, some (.int x17), some (.ref (70 + 8 * ((m.1 67 a6.toNatClampNeg) / 24).toNatClampNeg)), some (.int x6)]) (pc2 := 151) op85_148 rfl (by decide) ex17 rfl rfl ?_
      refine ry_go (tgt := 9) op85_151 (by decide) (by decide) ?_
      exact ih _ _ _ _ _ _ _ _ _ h
    · have h := (if_neg b2).symm.trans h
      cases h
      exact hr _ _ _ rfl _ _ _ _ _ _
set_option maxHeartbeats 4000000 in
set_option maxRecDepth 20000 in
theorem se_notePlay_ok (xs : List Int32) {d : Nat} (hd : 1 ≤ d) {n : Nat} {a1 : Int32} {m mO : rn_Mem} (h : se_notePlay n a1 m = some mO) : rn_R xs d 85 0 (rn_ent 9 [.ref 51, .int a1]) [] (rn_SH, m) none (rn_SH, mO) := by
  obtain ⟨d, rfl⟩ : ∃ e, d = e + 1 := ⟨d - 1, by omega⟩
  unfold se_notePlay at h
  show rn_R xs (d + 1) 85 0 [some (.ref 51), some (.int a1), none, none, none, none, none, none, none] [] (rn_SH, m) none (rn_SH, mO)
  refine rx_lc (v := 1) (pc2 := 1) op85_0 (by decide) rfl ?_
  refine rx_sl (L2 := [some (.ref 51), some (.int a1), some (.long 1), none, none, none, none, none, none]) (pc2 := 2) op85_1 rfl rfl rfl ?_
  refine rx_p (L2 := [some (.ref 51), some (.int a1), some (.long 1), none, none, none, none, none, none]) (S2 := [.int a1]) (pc2 := 3) op85_2 rfl rfl ?_
  refine rx_p (L2 := [some (.ref 51), some (.int a1), some (.long 1), none, none, none, none, none, none]) (S2 := [.long (a1.toInt64)]) (pc2 := 4) op85_3 rfl rfl ?_
  obtain ⟨x1, ex1, h⟩ := rq_bv h
  refine rx_sl (v := x1) (L2 := [some (.ref 51), some (.int a1), some (.long 1), none, some (.long x1), none, none, none, none]) (pc2 := 6) op85_4 ex1 rfl rfl ?_
  refine rx_ic (v := 0) (pc2 := 7) op85_6 (by decide) rfl ?_
  refine rx_s (L2 := [some (.ref 51), some (.int a1), some (.long 1), none, some (.long x1), none, some (.int 0), none, none]) (pc2 := 9) op85_7 rfl rfl rfl ?_
  obtain ⟨wf43, f43, h⟩ := rq_bind h
  refine se_notePlay_l9_ok xs hd (fun x20 x22 m18 eq => ?_) _ _ _ _ _ _ _ _ _ _  f43
  subst eq
  try dsimp only at h
  intro o19 o21 o23 o24 o25 o26
  refine rx_p (L2 := [some (.ref 51), o19, some (.long x20), o21, some (.long x22), o23, o24, o25, o26]) (S2 := [.ref 51]) (pc2 := 155) op85_154 rfl rfl ?_
  refine rx_p (L2 := [some (.ref 51), o19, some (.long x20), o21, some (.long x22), o23, o24, o25, o26]) (S2 := [.ref 51, .ref 51]) (pc2 := 156) op85_155 rfl rfl ?_
  refine rx_gf (v := .long (m18.2 51 12)) (pc2 := 159) op85_156 sp_51 rfl rfl rfl ?_
  refine rx_lc (v := 0) (pc2 := 160) op85_159 (by decide) rfl ?_
  refine rx_p (L2 := [some (.ref 51), o19, some (.long x20), o21, some (.long x22), o23, o24, o25, o26]) (S2 := [.int (lg_cmp (m18.2 51 12) 0), .ref 51]) (pc2 := 161) op85_160 rfl rfl ?_
  obtain ⟨⟨x38, m39⟩, gc42, h⟩ := rq_bind h
  try dsimp only at h
  have c42 : ∀ (o31 o32 o33 o34 o35 o36 o37 : Option Value), rn_R xs (d + 1) 85 178 [some (.ref 51), o31, some (.long x20), o32, o33, o34, o35, o36, o37] [.long x38, .ref 51] (rn_SH, m39) none (rn_SH, mO) := by
    intro o31 o32 o33 o34 o35 o36 o37
    obtain ⟨m40, em40, h⟩ := rq_bv h
    refine rx_pj (m2 := m40) (pc2 := 181) op85_178 sp_51 rfl em40 rfl ?_
    refine rx_p (L2 := [some (.ref 51), o31, some (.long x20), o32, o33, o34, o35, o36, o37]) (S2 := [.ref 51]) (pc2 := 182) op85_181 rfl rfl ?_
    refine rx_p (L2 := [some (.ref 51), o31, some (.long x20), o32, o33, o34, o35, o36, o37]) (S2 := [.ref 51, .ref 51]) (pc2 := 183) op85_182 rfl rfl ?_
    refine rx_gf (v := .long (m40.2 51 12)) (pc2 := 186) op85_183 sp_51 rfl rfl rfl ?_
    refine rx_p (L2 := [some (.ref 51), o31, some (.long x20), o32, o33, o34, o35, o36, o37]) (S2 := [.long x20, .long (m40.2 51 12), .ref 51]) (pc2 := 187) op85_186 rfl rfl ?_
    refine rx_p (L2 := [some (.ref 51), o31, some (.long x20), o32, o33, o34, o35, o36, o37]) (S2 := [.long ((m40.2 51 12) + x20), .ref 51]) (pc2 := 188) op85_187 rfl rfl ?_
    obtain ⟨m41, em41, h⟩ := rq_bv h
    refine rx_pj (m2 := m41) (pc2 := 191) op85_188 sp_51 rfl em41 rfl ?_
    obtain rfl := Option.some.inj h
    exact ry_rv op85_191 ms_85 rfl
  refine ry_if_ne (tgt := 169) (pc2 := 164) op85_161 (by decide) (by decide) rfl (fun b27 => ?_) (fun b27 => ?_)
  · have gc42 := (if_pos b27).symm.trans gc42
    refine rx_p (L2 := [some (.ref 51), o19, some (.long x20), o21, some (.long x22), o23, o24, o25, o26]) (S2 := [.long x22, .ref 51]) (pc2 := 166) op85_164 rfl rfl ?_
    refine ry_go (tgt := 178) op85_166 (by decide) (by decide) ?_
    cases gc42
    exact c42 _ _ _ _ _ _ _
  · have gc42 := (if_neg b27).symm.trans gc42
    refine rx_p (L2 := [some (.ref 51), o19, some (.long x20), o21, some (.long x22), o23, o24, o25, o26]) (S2 := [.ref 51, .ref 51]) (pc2 := 170) op85_169 rfl rfl ?_
    refine rx_gf (v := .long (m18.2 51 13)) (pc2 := 173) op85_170 sp_51 rfl rfl rfl ?_
    refine rx_p (L2 := [some (.ref 51), o19, some (.long x20), o21, some (.long x22), o23, o24, o25, o26]) (S2 := [.long x22, .long (m18.2 51 13), .ref 51]) (pc2 := 175) op85_173 rfl rfl ?_
    obtain ⟨⟨r29, m28⟩, f30, gc42⟩ := rq_bind gc42
    try dsimp only at gc42
    refine ry_is (vs := [.long (m18.2 51 13), .long x22]) (T := [.ref 51]) (pc2 := 178) op85_175 (by decide) ms_86 (by decide) rfl rfl (Nat.le_of_ble_eq_true rfl) (Nat.le_of_ble_eq_true rfl) (ja_minL_ok xs (by omega)  f30) rfl ?_
    show rn_R _ _ _ _ _ [.long r29, .ref 51] _ _ _
    cases gc42
    exact c42 _ _ _ _ _ _ _
/-! se_noteLess -/
theorem op87_0 : rn_op 87 0 = some (.aload_n 0, 1, 0, 0, 0) := by decide +kernel
theorem op87_1 : rn_op 87 1 = some (.getfield 76, 3, 4, 10, 0) := by decide +kernel
theorem op87_4 : rn_op 87 4 = some (.iconst 1, 1, 0, 0, 0) := by decide +kernel
theorem op87_5 : rn_op 87 5 = some (.if_icmp .ne 12, 3, 0, 0, 0) := by decide +kernel
theorem op87_8 : rn_op 87 8 = some (.aload_n 0, 1, 0, 0, 0) := by decide +kernel
theorem op87_9 : rn_op 87 9 = some (.iload_n 3, 1, 0, 0, 0) := by decide +kernel
theorem op87_10 : rn_op 87 10 = some (.invokestatic 243, 3, 84, 1, 0) := by decide +kernel
theorem op87_13 : rn_op 87 13 = some (.putfield 104, 3, 4, 11, 0) := by decide +kernel
theorem op87_16 : rn_op 87 16 = some (.return_, 1, 0, 0, 0) := by decide +kernel
theorem op87_17 : rn_op 87 17 = some (.aload_n 0, 1, 0, 0, 0) := by decide +kernel
theorem op87_18 : rn_op 87 18 = some (.getfield 57, 3, 4, 19, 3) := by decide +kernel
theorem op87_21 : rn_op 87 21 = some (.iconst 0, 1, 0, 0, 0) := by decide +kernel
theorem op87_22 : rn_op 87 22 = some (.aload_n 0, 1, 0, 0, 0) := by decide +kernel
theorem op87_23 : rn_op 87 23 = some (.getfield 57, 3, 4, 19, 3) := by decide +kernel
theorem op87_26 : rn_op 87 26 = some (.iconst 0, 1, 0, 0, 0) := by decide +kernel
theorem op87_27 : rn_op 87 27 = some (.iaload, 1, 0, 0, 0) := by decide +kernel
theorem op87_28 : rn_op 87 28 = some (.iload_n 1, 1, 0, 0, 0) := by decide +kernel
theorem op87_29 : rn_op 87 29 = some (.invokestatic 246, 3, 21, 2, 0) := by decide +kernel
theorem op87_32 : rn_op 87 32 = some (.iastore, 1, 0, 0, 0) := by decide +kernel
theorem op87_33 : rn_op 87 33 = some (.iconst 0, 1, 0, 0, 0) := by decide +kernel
theorem op87_34 : rn_op 87 34 = some (.istore 4, 2, 0, 0, 0) := by decide +kernel
theorem op87_36 : rn_op 87 36 = some (.iload 4, 2, 0, 0, 0) := by decide +kernel
theorem op87_38 : rn_op 87 38 = some (.aload_n 0, 1, 0, 0, 0) := by decide +kernel
theorem op87_39 : rn_op 87 39 = some (.getfield 12, 3, 4, 0, 3) := by decide +kernel
theorem op87_42 : rn_op 87 42 = some (.getfield 101, 3, 1, 1, 0) := by decide +kernel
theorem op87_45 : rn_op 87 45 = some (.if_icmp .ge 42, 3, 0, 0, 0) := by decide +kernel
theorem op87_48 : rn_op 87 48 = some (.iload_n 2, 1, 0, 0, 0) := by decide +kernel
theorem op87_49 : rn_op 87 49 = some (.iconst 4, 1, 0, 0, 0) := by decide +kernel
theorem op87_50 : rn_op 87 50 = some (.iload 4, 2, 0, 0, 0) := by decide +kernel
theorem op87_52 : rn_op 87 52 = some (.imul, 1, 0, 0, 0) := by decide +kernel
theorem op87_53 : rn_op 87 53 = some (.ishr, 1, 0, 0, 0) := by decide +kernel
theorem op87_54 : rn_op 87 54 = some (.iconst 1, 1, 0, 0, 0) := by decide +kernel
theorem op87_55 : rn_op 87 55 = some (.iand, 1, 0, 0, 0) := by decide +kernel
theorem op87_56 : rn_op 87 56 = some (.ifCond .ne 25, 3, 0, 0, 0) := by decide +kernel
theorem op87_59 : rn_op 87 59 = some (.aload_n 0, 1, 0, 0, 0) := by decide +kernel
theorem op87_60 : rn_op 87 60 = some (.getfield 57, 3, 4, 19, 3) := by decide +kernel
theorem op87_63 : rn_op 87 63 = some (.iload 4, 2, 0, 0, 0) := by decide +kernel
theorem op87_65 : rn_op 87 65 = some (.iconst 1, 1, 0, 0, 0) := by decide +kernel
theorem op87_66 : rn_op 87 66 = some (.iadd, 1, 0, 0, 0) := by decide +kernel
theorem op87_67 : rn_op 87 67 = some (.aload_n 0, 1, 0, 0, 0) := by decide +kernel
theorem op87_68 : rn_op 87 68 = some (.getfield 57, 3, 4, 19, 3) := by decide +kernel
theorem op87_71 : rn_op 87 71 = some (.iload 4, 2, 0, 0, 0) := by decide +kernel
theorem op87_73 : rn_op 87 73 = some (.iconst 1, 1, 0, 0, 0) := by decide +kernel
theorem op87_74 : rn_op 87 74 = some (.iadd, 1, 0, 0, 0) := by decide +kernel
theorem op87_75 : rn_op 87 75 = some (.iaload, 1, 0, 0, 0) := by decide +kernel
theorem op87_76 : rn_op 87 76 = some (.iload_n 1, 1, 0, 0, 0) := by decide +kernel
theorem op87_77 : rn_op 87 77 = some (.invokestatic 246, 3, 21, 2, 0) := by decide +kernel
theorem op87_80 : rn_op 87 80 = some (.iastore, 1, 0, 0, 0) := by decide +kernel
theorem op87_81 : rn_op 87 81 = some (.iinc 4 1, 3, 0, 0, 0) := by decide +kernel
theorem op87_84 : rn_op 87 84 = some (.goto (-48), 3, 0, 0, 0) := by decide +kernel
theorem op87_87 : rn_op 87 87 = some (.return_, 1, 0, 0, 0) := by decide +kernel
def se_noteLess_l36 (a1 : Int32) (a2 : Int32) : Nat → Int32 → rn_Mem → Option (rn_Mem)
  | 0, _, _ => none
  | n + 1, a4, m =>
    if a4 < (m.1 52 1) then
      (show Option (rn_Mem) from
        if ((a2 >>> (((4 : Int32) * a4) &&& 31)) &&& 1) = 0 then
          if rn_in (a4 + 1) 5 = true then
            (ja_min n (m.1 69 (a4 + 1).toNatClampNeg) a1 m).bind fun (r14, m13) =>
            if rn_in (a4 + 1) 5 = true then
              (some (rm_i m13 69 (a4 + 1).toNatClampNeg r14)).bind fun (m16 : rn_Mem) =>
              some (m16)
            else none
          else none
        else
          some (m)).bind fun m19 =>
      (some (a4 + 1)).bind fun (x20 : Int32) =>
      se_noteLess_l36 a1 a2 n x20 m19
    else
      some m
def se_noteLess (n : Nat) (a1 : Int32) (a2 : Int32) (a3 : Int32) (m : rn_Mem) : Option (rn_Mem) :=
  if (m.1 51 10) = 1 then
    (se_rankOf n a3 m).bind fun (r3, m2) =>
    (some (rm_i m2 51 11 r3)).bind fun (m5 : rn_Mem) =>
    some m5
  else
    (ja_min n (m.1 69 0) a1 m).bind fun (r7, m6) =>
    (some (rm_i m6 69 0 r7)).bind fun (m9 : rn_Mem) =>
    (se_noteLess_l36 a1 a2 n 0 m9).bind fun m23 =>
    some m23
set_option maxHeartbeats 4000000 in
set_option maxRecDepth 20000 in
theorem se_noteLess_l36_ok (xs : List Int32) {d : Nat} (hd : 2 ≤ d + 1) {a1 : Int32} {a2 : Int32} {r : Option Value} {τ : rn_H} {out : rn_Mem} (hr : ∀ (mO : rn_Mem), out = mO → ∀ (o0 o1 o2 o3 o4 : Option Value), rn_R xs (d + 1) 87 87 [o0, o1, o2, o3, o4] [] (rn_SH, mO) r τ) : ∀ (n : Nat) (a4 : Int32) (o3 : Option Value) (m : rn_Mem), se_noteLess_l36 a1 a2 n a4 m = some out → rn_R xs (d + 1) 87 36 [some (.ref 51), some (.int a1), some (.int a2), o3, some (.int a4)] [] (rn_SH, m) r τ := by
  intro n
  induction n with
  | zero =>
    intro _ _ _ h
    cases h
  | succ n ih =>
    intro a4 o3 m h
    unfold se_noteLess_l36 at h
    try dsimp only at h
    refine rx_p (L2 := [some (.ref 51), some (.int a1), some (.int a2), o3, some (.int a4)]) (S2 := [.int a4]) (pc2 := 38) op87_36 rfl rfl ?_
    refine rx_p (L2 := [some (.ref 51), some (.int a1), some (.int a2), o3, some (.int a4)]) (S2 := [.ref 51, .int a4]) (pc2 := 39) op87_38 rfl rfl ?_
    refine rx_gf (v := .ref 52) (pc2 := 42) op87_39 sp_51 rfl rfl rfl ?_
    refine rx_gf (v := .int (m.1 52 1)) (pc2 := 45) op87_42 sp_52 rfl rfl rfl ?_
    refine ry_ic_ge (tgt := 87) (pc2 := 48) op87_45 (by decide) (by decide) rfl (fun b10 => ?_) (fun b10 => ?_)
    · have h := (if_pos b10).symm.trans h
      refine rx_p (L2 := [some (.ref 51), some (.int a1), some (.int a2), o3, some (.int a4)]) (S2 := [.int a2]) (pc2 := 49) op87_48 rfl rfl ?_
      refine rx_ic (v := 4) (pc2 := 50) op87_49 (by decide) rfl ?_
      refine rx_p (L2 := [some (.ref 51), some (.int a1), some (.int a2), o3, some (.int a4)]) (S2 := [.int a4, .int 4, .int a2]) (pc2 := 52) op87_50 rfl rfl ?_
      refine rx_p (L2 := [some (.ref 51), some (.int a1), some (.int a2), o3, some (.int a4)]) (S2 := [.int ((4 : Int32) * a4), .int a2]) (pc2 := 53) op87_52 rfl rfl ?_
      refine rx_p (L2 := [some (.ref 51), some (.int a1), some (.int a2), o3, some (.int a4)]) (S2 := [.int (a2 >>> (((4 : Int32) * a4) &&& 31))]) (pc2 := 54) op87_53 rfl rfl ?_
      refine rx_ic (v := 1) (pc2 := 55) op87_54 (by decide) rfl ?_
      refine rx_p (L2 := [some (.ref 51), some (.int a1), some (.int a2), o3, some (.int a4)]) (S2 := [.int ((a2 >>> (((4 : Int32) * a4) &&& 31)) &&& 1)]) (pc2 := 56) op87_55 rfl rfl ?_
      obtain ⟨m19, gc22, h⟩ := rq_bind h
      try dsimp only at h
      have c22 : ∀ (o18 : Option Value), rn_R xs (d + 1) 87 81 [some (.ref 51), some (.int a1), some (.int a2), o18, some (.int a4)] [] (rn_SH, m19) r τ := by
        intro o18
        obtain ⟨x20, ex20, h⟩ := rq_bv h
        refine rx_incd (w := 1) (v := x20) (j := 3) (pc2 := 84) op87_81 rfl (by decide) ex20 rfl (fun o21 => ?_)
        show rn_R _ _ _ _ [some (.ref 51), some (.int a1), some (.int a2), o21, some (.int x20)] _ _ _ _
        refine ry_go (tgt := 36) op87_84 (by decide) (by decide) ?_
        exact ih _ _ _ h
      refine ry_if_ne (tgt := 81) (pc2 := 59) op87_56 (by decide) (by decide) rfl (fun b11 => ?_) (fun b11 => ?_)
      · have gc22 := (if_pos b11).symm.trans gc22
        refine rx_p (L2 := [some (.ref 51), some (.int a1), some (.int a2), o3, some (.int a4)]) (S2 := [.ref 51]) (pc2 := 60) op87_59 rfl rfl ?_
        refine rx_gf (v := .ref 69) (pc2 := 63) op87_60 sp_51 rfl rfl rfl ?_
        refine rx_p (L2 := [some (.ref 51), some (.int a1), some (.int a2), o3, some (.int a4)]) (S2 := [.int a4, .ref 69]) (pc2 := 65) op87_63 rfl rfl ?_
        refine rx_ic (v := 1) (pc2 := 66) op87_65 (by decide) rfl ?_
        refine rx_p (L2 := [some (.ref 51), some (.int a1), some (.int a2), o3, some (.int a4)]) (S2 := [.int (a4 + 1), .ref 69]) (pc2 := 67) op87_66 rfl rfl ?_
        refine rx_p (L2 := [some (.ref 51), some (.int a1), some (.int a2), o3, some (.int a4)]) (S2 := [.ref 51, .int (a4 + 1), .ref 69]) (pc2 := 68) op87_67 rfl rfl ?_
        refine rx_gf (v := .ref 69) (pc2 := 71) op87_68 sp_51 rfl rfl rfl ?_
        refine rx_p (L2 := [some (.ref 51), some (.int a1), some (.int a2), o3, some (.int a4)]) (S2 := [.int a4, .ref 69, .int (a4 + 1), .ref 69]) (pc2 := 73) op87_71 rfl rfl ?_
        refine rx_ic (v := 1) (pc2 := 74) op87_73 (by decide) rfl ?_
        refine rx_p (L2 := [some (.ref 51), some (.int a1), some (.int a2), o3, some (.int a4)]) (S2 := [.int (a4 + 1), .ref 69, .int (a4 + 1), .ref 69]) (pc2 := 75) op87_74 rfl rfl ?_
        obtain ⟨k12, gc22⟩ := rq_chk gc22
        refine rx_ia (pc2 := 76) op87_75 (rn_shlt sp_69) sp_69 k12 rfl rfl ?_
        refine rx_p (L2 := [some (.ref 51), some (.int a1), some (.int a2), o3, some (.int a4)]) (S2 := [.int a1, .int (m.1 69 (a4 + 1).toNatClampNeg), .int (a4 + 1), .ref 69]) (pc2 := 77) op87_76 rfl rfl ?_
        obtain ⟨⟨r14, m13⟩, f15, gc22⟩ := rq_bind gc22
        try dsimp only at gc22
        refine ry_is (vs := [.int (m.1 69 (a4 + 1).toNatClampNeg), .int a1]) (T := [.int (a4 + 1), .ref 69]) (pc2 := 80) op87_77 (by decide) ms_21 (by decide) rfl rfl (Nat.le_of_ble_eq_true rfl) (Nat.le_of_ble_eq_true rfl) (ja_min_ok xs (by omega)  f15) rfl ?_
        show rn_R _ _ _ _ _ [.int r14, .int (a4 + 1), .ref 69] _ _ _
        obtain ⟨k17, gc22⟩ := rq_chk gc22
        obtain ⟨m16, em16, gc22⟩ := rq_bv gc22
        refine rx_is (m2 := m16) (pc2 := 81) op87_80 sp_69 k17 rfl em16 rfl ?_
        cases gc22
        exact c22 _
      · have gc22 := (if_neg b11).symm.trans gc22
        cases gc22
        exact c22 _
    · have h := (if_neg b10).symm.trans h
      cases h
      exact hr _ rfl _ _ _ _ _
set_option maxHeartbeats 4000000 in
set_option maxRecDepth 20000 in
theorem se_noteLess_ok (xs : List Int32) {d : Nat} (hd : 2 ≤ d) {n : Nat} {a1 : Int32} {a2 : Int32} {a3 : Int32} {m mO : rn_Mem} (h : se_noteLess n a1 a2 a3 m = some mO) : rn_R xs d 87 0 (rn_ent 5 [.ref 51, .int a1, .int a2, .int a3]) [] (rn_SH, m) none (rn_SH, mO) := by
  obtain ⟨d, rfl⟩ : ∃ e, d = e + 1 := ⟨d - 1, by omega⟩
  unfold se_noteLess at h
  show rn_R xs (d + 1) 87 0 [some (.ref 51), some (.int a1), some (.int a2), some (.int a3), none] [] (rn_SH, m) none (rn_SH, mO)
  refine rx_p (L2 := [some (.ref 51), some (.int a1), some (.int a2), some (.int a3), none]) (S2 := [.ref 51]) (pc2 := 1) op87_0 rfl rfl ?_
  refine rx_gf (v := .int (m.1 51 10)) (pc2 := 4) op87_1 sp_51 rfl rfl rfl ?_
  refine rx_ic (v := 1) (pc2 := 5) op87_4 (by decide) rfl ?_
  refine ry_ic_ne (tgt := 17) (pc2 := 8) op87_5 (by decide) (by decide) rfl (fun b1 => ?_) (fun b1 => ?_)
  · have h := (if_pos b1).symm.trans h
    refine rx_p (L2 := [some (.ref 51), some (.int a1), some (.int a2), some (.int a3), none]) (S2 := [.ref 51]) (pc2 := 9) op87_8 rfl rfl ?_
    refine rx_p (L2 := [some (.ref 51), some (.int a1), some (.int a2), some (.int a3), none]) (S2 := [.int a3, .ref 51]) (pc2 := 10) op87_9 rfl rfl ?_
    obtain ⟨⟨r3, m2⟩, f4, h⟩ := rq_bind h
    try dsimp only at h
    refine ry_is (vs := [.int a3]) (T := [.ref 51]) (pc2 := 13) op87_10 (by decide) ms_84 (by decide) rfl rfl (Nat.le_of_ble_eq_true rfl) (Nat.le_of_ble_eq_true rfl) (se_rankOf_ok xs (by omega)  f4) rfl ?_
    show rn_R _ _ _ _ _ [.int r3, .ref 51] _ _ _
    obtain ⟨m5, em5, h⟩ := rq_bv h
    refine rx_pf (m2 := m5) (pc2 := 16) op87_13 sp_51 rfl em5 rfl ?_
    obtain rfl := Option.some.inj h
    exact ry_rv op87_16 ms_87 rfl
  · have h := (if_neg b1).symm.trans h
    refine rx_p (L2 := [some (.ref 51), some (.int a1), some (.int a2), some (.int a3), none]) (S2 := [.ref 51]) (pc2 := 18) op87_17 rfl rfl ?_
    refine rx_gf (v := .ref 69) (pc2 := 21) op87_18 sp_51 rfl rfl rfl ?_
    refine rx_ic (v := 0) (pc2 := 22) op87_21 (by decide) rfl ?_
    refine rx_p (L2 := [some (.ref 51), some (.int a1), some (.int a2), some (.int a3), none]) (S2 := [.ref 51, .int 0, .ref 69]) (pc2 := 23) op87_22 rfl rfl ?_
    refine rx_gf (v := .ref 69) (pc2 := 26) op87_23 sp_51 rfl rfl rfl ?_
    refine rx_ic (v := 0) (pc2 := 27) op87_26 (by decide) rfl ?_
    refine rx_ia (j := 0) (pc2 := 28) op87_27 (rn_shlt sp_69) sp_69 (by decide) (by decide) rfl ?_
    refine rx_p (L2 := [some (.ref 51), some (.int a1), some (.int a2), some (.int a3), none]) (S2 := [.int a1, .int (m.1 69 0), .int 0, .ref 69]) (pc2 := 29) op87_28 rfl rfl ?_
    obtain ⟨⟨r7, m6⟩, f8, h⟩ := rq_bind h
    try dsimp only at h
    refine ry_is (vs := [.int (m.1 69 0), .int a1]) (T := [.int 0, .ref 69]) (pc2 := 32) op87_29 (by decide) ms_21 (by decide) rfl rfl (Nat.le_of_ble_eq_true rfl) (Nat.le_of_ble_eq_true rfl) (ja_min_ok xs (by omega)  f8) rfl ?_
    show rn_R _ _ _ _ _ [.int r7, .int 0, .ref 69] _ _ _
    obtain ⟨m9, em9, h⟩ := rq_bv h
    refine rx_is (j := 0) (m2 := m9) (pc2 := 33) op87_32 sp_69 (by decide) (by decide) em9 rfl ?_
    refine rx_ic (v := 0) (pc2 := 34) op87_33 (by decide) rfl ?_
    refine rx_s (L2 := [some (.ref 51), some (.int a1), some (.int a2), some (.int a3), some (.int 0)]) (pc2 := 36) op87_34 rfl rfl rfl ?_
    obtain ⟨m23, f29, h⟩ := rq_bind h
    refine se_noteLess_l36_ok xs hd (fun m0 eq => ?_) _ _ _ _  f29
    subst eq
    try dsimp only at h
    intro o24 o25 o26 o27 o28
    obtain rfl := Option.some.inj h
    exact ry_rv op87_87 ms_87 rfl
/-! ga_previous -/
theorem op88_0 : rn_op 88 0 = some (.iload_n 1, 1, 0, 0, 0) := by decide +kernel
theorem op88_1 : rn_op 88 1 = some (.ifCond .le 9, 3, 0, 0, 0) := by decide +kernel
theorem op88_4 : rn_op 88 4 = some (.iload_n 1, 1, 0, 0, 0) := by decide +kernel
theorem op88_5 : rn_op 88 5 = some (.iconst 1, 1, 0, 0, 0) := by decide +kernel
theorem op88_6 : rn_op 88 6 = some (.isub, 1, 0, 0, 0) := by decide +kernel
theorem op88_7 : rn_op 88 7 = some (.goto 9, 3, 0, 0, 0) := by decide +kernel
theorem op88_10 : rn_op 88 10 = some (.aload_n 0, 1, 0, 0, 0) := by decide +kernel
theorem op88_11 : rn_op 88 11 = some (.getfield 9, 3, 1, 1, 0) := by decide +kernel
theorem op88_14 : rn_op 88 14 = some (.iconst 1, 1, 0, 0, 0) := by decide +kernel
theorem op88_15 : rn_op 88 15 = some (.isub, 1, 0, 0, 0) := by decide +kernel
theorem op88_16 : rn_op 88 16 = some (.ireturn, 1, 0, 0, 0) := by decide +kernel
def ga_previous (n : Nat) (q0 : Nat) (a1 : Int32) (m : rn_Mem) : Option (Int32 × rn_Mem) :=
  if 0 < a1 then
    some (a1 - 1, m)
  else
    some ((m.1 q0 1) - 1, m)
set_option maxHeartbeats 4000000 in
set_option maxRecDepth 20000 in
theorem ga_previous_ok (xs : List Int32) {d : Nat} (hd : 0 ≤ d) {n : Nat} {q0 : Nat} {a1 : Int32} {m mO : rn_Mem} {rO : Int32} (hq0 : sA_Game q0) (h : ga_previous n q0 a1 m = some (rO, mO)) : rn_R xs d 88 0 (rn_ent 2 [.ref q0, .int a1]) [] (rn_SH, m) (some (.int rO)) (rn_SH, mO) := by
  unfold ga_previous at h
  show rn_R xs d 88 0 [some (.ref q0), some (.int a1)] [] (rn_SH, m) (some (.int rO)) (rn_SH, mO)
  refine rx_p (L2 := [some (.ref q0), some (.int a1)]) (S2 := [.int a1]) (pc2 := 1) op88_0 rfl rfl ?_
  refine ry_if_le (tgt := 10) (pc2 := 4) op88_1 (by decide) (by decide) rfl (fun b1 => ?_) (fun b1 => ?_)
  · have h := (if_pos b1).symm.trans h
    refine rx_p (L2 := [some (.ref q0), some (.int a1)]) (S2 := [.int a1]) (pc2 := 5) op88_4 rfl rfl ?_
    refine rx_ic (v := 1) (pc2 := 6) op88_5 (by decide) rfl ?_
    refine rx_p (L2 := [some (.ref q0), some (.int a1)]) (S2 := [.int (a1 - 1)]) (pc2 := 7) op88_6 rfl rfl ?_
    refine ry_go (tgt := 16) op88_7 (by decide) (by decide) ?_
    obtain ⟨rfl, rfl⟩ := rq_ret h
    exact ry_ri op88_16 ms_88 rfl
  · have h := (if_neg b1).symm.trans h
    refine rx_p (L2 := [some (.ref q0), some (.int a1)]) (S2 := [.ref q0]) (pc2 := 11) op88_10 rfl rfl ?_
    refine rx_gf (v := .int (m.1 q0 1)) (pc2 := 14) op88_11 hq0 rfl rfl rfl ?_
    refine rx_ic (v := 1) (pc2 := 15) op88_14 (by decide) rfl ?_
    refine rx_p (L2 := [some (.ref q0), some (.int a1)]) (S2 := [.int ((m.1 q0 1) - 1)]) (pc2 := 16) op88_15 rfl rfl ?_
    obtain ⟨rfl, rfl⟩ := rq_ret h
    exact ry_ri op88_16 ms_88 rfl
/-! se_layTrick -/
theorem op78_0 : rn_op 78 0 = some (.iload_n 2, 1, 0, 0, 0) := by decide +kernel
theorem op78_1 : rn_op 78 1 = some (.iconst 4, 1, 0, 0, 0) := by decide +kernel
theorem op78_2 : rn_op 78 2 = some (.if_icmp .lt 4, 3, 0, 0, 0) := by decide +kernel
theorem op78_5 : rn_op 78 5 = some (.return_, 1, 0, 0, 0) := by decide +kernel
theorem op78_6 : rn_op 78 6 = some (.aload_n 0, 1, 0, 0, 0) := by decide +kernel
theorem op78_7 : rn_op 78 7 = some (.getfield 34, 3, 4, 3, 3) := by decide +kernel
theorem op78_10 : rn_op 78 10 = some (.iload_n 2, 1, 0, 0, 0) := by decide +kernel
theorem op78_11 : rn_op 78 11 = some (.aaload, 1, 0, 0, 0) := by decide +kernel
theorem op78_12 : rn_op 78 12 = some (.astore 8, 2, 0, 0, 0) := by decide +kernel
theorem op78_14 : rn_op 78 14 = some (.iconst 0, 1, 0, 0, 0) := by decide +kernel
theorem op78_15 : rn_op 78 15 = some (.istore 9, 2, 0, 0, 0) := by decide +kernel
theorem op78_17 : rn_op 78 17 = some (.iload 9, 2, 0, 0, 0) := by decide +kernel
theorem op78_19 : rn_op 78 19 = some (.aload 8, 2, 0, 0, 0) := by decide +kernel
theorem op78_21 : rn_op 78 21 = some (.getfield 200, 3, 9, 2, 0) := by decide +kernel
theorem op78_24 : rn_op 78 24 = some (.if_icmp .ge 264, 3, 0, 0, 0) := by decide +kernel
theorem op78_27 : rn_op 78 27 = some (.aload 8, 2, 0, 0, 0) := by decide +kernel
theorem op78_29 : rn_op 78 29 = some (.getfield 202, 3, 9, 3, 3) := by decide +kernel
theorem op78_32 : rn_op 78 32 = some (.iload 9, 2, 0, 0, 0) := by decide +kernel
theorem op78_34 : rn_op 78 34 = some (.iaload, 1, 0, 0, 0) := by decide +kernel
theorem op78_35 : rn_op 78 35 = some (.istore 10, 2, 0, 0, 0) := by decide +kernel
theorem op78_37 : rn_op 78 37 = some (.iload 4, 2, 0, 0, 0) := by decide +kernel
theorem op78_39 : rn_op 78 39 = some (.aload 8, 2, 0, 0, 0) := by decide +kernel
theorem op78_41 : rn_op 78 41 = some (.getfield 205, 3, 9, 4, 3) := by decide +kernel
theorem op78_44 : rn_op 78 44 = some (.iload 9, 2, 0, 0, 0) := by decide +kernel
theorem op78_46 : rn_op 78 46 = some (.iaload, 1, 0, 0, 0) := by decide +kernel
theorem op78_47 : rn_op 78 47 = some (.iand, 1, 0, 0, 0) := by decide +kernel
theorem op78_48 : rn_op 78 48 = some (.invokestatic 208, 3, 79, 1, 0) := by decide +kernel
theorem op78_51 : rn_op 78 51 = some (.istore 11, 2, 0, 0, 0) := by decide +kernel
theorem op78_53 : rn_op 78 53 = some (.aload_n 0, 1, 0, 0, 0) := by decide +kernel
theorem op78_54 : rn_op 78 54 = some (.iload_n 1, 1, 0, 0, 0) := by decide +kernel
theorem op78_55 : rn_op 78 55 = some (.iload 10, 2, 0, 0, 0) := by decide +kernel
theorem op78_57 : rn_op 78 57 = some (.iload_n 3, 1, 0, 0, 0) := by decide +kernel
theorem op78_58 : rn_op 78 58 = some (.invokevirtual 211, 3, 80, 4, 4) := by decide +kernel
theorem op78_61 : rn_op 78 61 = some (.ifCond .eq 221, 3, 0, 0, 0) := by decide +kernel
theorem op78_64 : rn_op 78 64 = some (.iload 11, 2, 0, 0, 0) := by decide +kernel
theorem op78_66 : rn_op 78 66 = some (.ifCond .eq 14, 3, 0, 0, 0) := by decide +kernel
theorem op78_69 : rn_op 78 69 = some (.aload_n 0, 1, 0, 0, 0) := by decide +kernel
theorem op78_70 : rn_op 78 70 = some (.getfield 76, 3, 4, 10, 0) := by decide +kernel
theorem op78_73 : rn_op 78 73 = some (.iconst 2, 1, 0, 0, 0) := by decide +kernel
theorem op78_74 : rn_op 78 74 = some (.if_icmp .eq 6, 3, 0, 0, 0) := by decide +kernel
theorem op78_77 : rn_op 78 77 = some (.goto 205, 3, 0, 0, 0) := by decide +kernel
theorem op78_80 : rn_op 78 80 = some (.iload 5, 2, 0, 0, 0) := by decide +kernel
theorem op78_82 : rn_op 78 82 = some (.iload 11, 2, 0, 0, 0) := by decide +kernel
theorem op78_84 : rn_op 78 84 = some (.invokestatic 215, 3, 81, 1, 0) := by decide +kernel
theorem op78_87 : rn_op 78 87 = some (.iadd, 1, 0, 0, 0) := by decide +kernel
theorem op78_88 : rn_op 78 88 = some (.istore 12, 2, 0, 0, 0) := by decide +kernel
theorem op78_90 : rn_op 78 90 = some (.iload 4, 2, 0, 0, 0) := by decide +kernel
theorem op78_92 : rn_op 78 92 = some (.aload 8, 2, 0, 0, 0) := by decide +kernel
theorem op78_94 : rn_op 78 94 = some (.getfield 220, 3, 9, 5, 3) := by decide +kernel
theorem op78_97 : rn_op 78 97 = some (.iload 9, 2, 0, 0, 0) := by decide +kernel
theorem op78_99 : rn_op 78 99 = some (.iaload, 1, 0, 0, 0) := by decide +kernel
theorem op78_100 : rn_op 78 100 = some (.ior, 1, 0, 0, 0) := by decide +kernel
theorem op78_101 : rn_op 78 101 = some (.istore 13, 2, 0, 0, 0) := by decide +kernel
theorem op78_103 : rn_op 78 103 = some (.iload 7, 2, 0, 0, 0) := by decide +kernel
theorem op78_105 : rn_op 78 105 = some (.aload 8, 2, 0, 0, 0) := by decide +kernel
theorem op78_107 : rn_op 78 107 = some (.getfield 223, 3, 9, 6, 3) := by decide +kernel
theorem op78_110 : rn_op 78 110 = some (.iload 9, 2, 0, 0, 0) := by decide +kernel
theorem op78_112 : rn_op 78 112 = some (.iaload, 1, 0, 0, 0) := by decide +kernel
theorem op78_113 : rn_op 78 113 = some (.ior, 1, 0, 0, 0) := by decide +kernel
theorem op78_114 : rn_op 78 114 = some (.aload_n 0, 1, 0, 0, 0) := by decide +kernel
theorem op78_115 : rn_op 78 115 = some (.getfield 28, 3, 4, 2, 3) := by decide +kernel
theorem op78_118 : rn_op 78 118 = some (.iload_n 1, 1, 0, 0, 0) := by decide +kernel
theorem op78_119 : rn_op 78 119 = some (.iload 10, 2, 0, 0, 0) := by decide +kernel
theorem op78_121 : rn_op 78 121 = some (.aload 8, 2, 0, 0, 0) := by decide +kernel
theorem op78_123 : rn_op 78 123 = some (.getfield 183, 3, 9, 1, 0) := by decide +kernel
theorem op78_126 : rn_op 78 126 = some (.aload_n 0, 1, 0, 0, 0) := by decide +kernel
theorem op78_127 : rn_op 78 127 = some (.getfield 173, 3, 4, 9, 0) := by decide +kernel
theorem op78_130 : rn_op 78 130 = some (.iload 13, 2, 0, 0, 0) := by decide +kernel
theorem op78_132 : rn_op 78 132 = some (.invokevirtual 226, 3, 82, 6, 0) := by decide +kernel
theorem op78_135 : rn_op 78 135 = some (.ior, 1, 0, 0, 0) := by decide +kernel
theorem op78_136 : rn_op 78 136 = some (.istore 14, 2, 0, 0, 0) := by decide +kernel
theorem op78_138 : rn_op 78 138 = some (.aload_n 0, 1, 0, 0, 0) := by decide +kernel
theorem op78_139 : rn_op 78 139 = some (.iload 12, 2, 0, 0, 0) := by decide +kernel
theorem op78_141 : rn_op 78 141 = some (.iload 6, 2, 0, 0, 0) := by decide +kernel
theorem op78_143 : rn_op 78 143 = some (.iload 11, 2, 0, 0, 0) := by decide +kernel
theorem op78_145 : rn_op 78 145 = some (.ior, 1, 0, 0, 0) := by decide +kernel
theorem op78_146 : rn_op 78 146 = some (.iload 14, 2, 0, 0, 0) := by decide +kernel
theorem op78_148 : rn_op 78 148 = some (.invokevirtual 230, 3, 83, 4, 4) := by decide +kernel
theorem op78_151 : rn_op 78 151 = some (.ifCond .ne 6, 3, 0, 0, 0) := by decide +kernel
theorem op78_154 : rn_op 78 154 = some (.goto 128, 3, 0, 0, 0) := by decide +kernel
theorem op78_157 : rn_op 78 157 = some (.aload_n 0, 1, 0, 0, 0) := by decide +kernel
theorem op78_158 : rn_op 78 158 = some (.getfield 51, 3, 4, 8, 3) := by decide +kernel
theorem op78_161 : rn_op 78 161 = some (.iload_n 1, 1, 0, 0, 0) := by decide +kernel
theorem op78_162 : rn_op 78 162 = some (.iload_n 2, 1, 0, 0, 0) := by decide +kernel
theorem op78_163 : rn_op 78 163 = some (.bipush 24, 2, 0, 0, 0) := by decide +kernel
theorem op78_165 : rn_op 78 165 = some (.imul, 1, 0, 0, 0) := by decide +kernel
theorem op78_166 : rn_op 78 166 = some (.iload 9, 2, 0, 0, 0) := by decide +kernel
theorem op78_168 : rn_op 78 168 = some (.iadd, 1, 0, 0, 0) := by decide +kernel
theorem op78_169 : rn_op 78 169 = some (.iastore, 1, 0, 0, 0) := by decide +kernel
theorem op78_170 : rn_op 78 170 = some (.iload_n 1, 1, 0, 0, 0) := by decide +kernel
theorem op78_171 : rn_op 78 171 = some (.ifCond .ne 19, 3, 0, 0, 0) := by decide +kernel
theorem op78_174 : rn_op 78 174 = some (.aload_n 0, 1, 0, 0, 0) := by decide +kernel
theorem op78_175 : rn_op 78 175 = some (.getfield 76, 3, 4, 10, 0) := by decide +kernel
theorem op78_178 : rn_op 78 178 = some (.ifCond .ne 12, 3, 0, 0, 0) := by decide +kernel
theorem op78_181 : rn_op 78 181 = some (.aload_n 0, 1, 0, 0, 0) := by decide +kernel
theorem op78_182 : rn_op 78 182 = some (.iload 10, 2, 0, 0, 0) := by decide +kernel
theorem op78_184 : rn_op 78 184 = some (.invokevirtual 233, 3, 85, 2, 4) := by decide +kernel
theorem op78_187 : rn_op 78 187 = some (.goto 95, 3, 0, 0, 0) := by decide +kernel
theorem op78_190 : rn_op 78 190 = some (.iload_n 1, 1, 0, 0, 0) := by decide +kernel
theorem op78_191 : rn_op 78 191 = some (.ifCond .ne 19, 3, 0, 0, 0) := by decide +kernel
theorem op78_194 : rn_op 78 194 = some (.aload_n 0, 1, 0, 0, 0) := by decide +kernel
theorem op78_195 : rn_op 78 195 = some (.iload 12, 2, 0, 0, 0) := by decide +kernel
theorem op78_197 : rn_op 78 197 = some (.iload 6, 2, 0, 0, 0) := by decide +kernel
theorem op78_199 : rn_op 78 199 = some (.iload 11, 2, 0, 0, 0) := by decide +kernel
theorem op78_201 : rn_op 78 201 = some (.ior, 1, 0, 0, 0) := by decide +kernel
theorem op78_202 : rn_op 78 202 = some (.iload 14, 2, 0, 0, 0) := by decide +kernel
theorem op78_204 : rn_op 78 204 = some (.invokevirtual 236, 3, 87, 4, 4) := by decide +kernel
theorem op78_207 : rn_op 78 207 = some (.goto 75, 3, 0, 0, 0) := by decide +kernel
theorem op78_210 : rn_op 78 210 = some (.aload_n 0, 1, 0, 0, 0) := by decide +kernel
theorem op78_211 : rn_op 78 211 = some (.dup, 1, 0, 0, 0) := by decide +kernel
theorem op78_212 : rn_op 78 212 = some (.getfield 173, 3, 4, 9, 0) := by decide +kernel
theorem op78_215 : rn_op 78 215 = some (.aload 8, 2, 0, 0, 0) := by decide +kernel
theorem op78_217 : rn_op 78 217 = some (.getfield 183, 3, 9, 1, 0) := by decide +kernel
theorem op78_220 : rn_op 78 220 = some (.ior, 1, 0, 0, 0) := by decide +kernel
theorem op78_221 : rn_op 78 221 = some (.putfield 173, 3, 4, 9, 0) := by decide +kernel
theorem op78_224 : rn_op 78 224 = some (.aload_n 0, 1, 0, 0, 0) := by decide +kernel
theorem op78_225 : rn_op 78 225 = some (.iload_n 1, 1, 0, 0, 0) := by decide +kernel
theorem op78_226 : rn_op 78 226 = some (.iconst 1, 1, 0, 0, 0) := by decide +kernel
theorem op78_227 : rn_op 78 227 = some (.isub, 1, 0, 0, 0) := by decide +kernel
theorem op78_228 : rn_op 78 228 = some (.aload_n 0, 1, 0, 0, 0) := by decide +kernel
theorem op78_229 : rn_op 78 229 = some (.getfield 12, 3, 4, 0, 3) := by decide +kernel
theorem op78_232 : rn_op 78 232 = some (.getfield 156, 3, 1, 6, 0) := by decide +kernel
theorem op78_235 : rn_op 78 235 = some (.ifCond .ne 8, 3, 0, 0, 0) := by decide +kernel
theorem op78_238 : rn_op 78 238 = some (.iload 10, 2, 0, 0, 0) := by decide +kernel
theorem op78_240 : rn_op 78 240 = some (.goto 12, 3, 0, 0, 0) := by decide +kernel
theorem op78_243 : rn_op 78 243 = some (.aload_n 0, 1, 0, 0, 0) := by decide +kernel
theorem op78_244 : rn_op 78 244 = some (.getfield 12, 3, 4, 0, 3) := by decide +kernel
theorem op78_247 : rn_op 78 247 = some (.iload 10, 2, 0, 0, 0) := by decide +kernel
theorem op78_249 : rn_op 78 249 = some (.invokevirtual 240, 3, 88, 2, 1) := by decide +kernel
theorem op78_252 : rn_op 78 252 = some (.iload 13, 2, 0, 0, 0) := by decide +kernel
theorem op78_254 : rn_op 78 254 = some (.iload 12, 2, 0, 0, 0) := by decide +kernel
theorem op78_256 : rn_op 78 256 = some (.iload 6, 2, 0, 0, 0) := by decide +kernel
theorem op78_258 : rn_op 78 258 = some (.iload 11, 2, 0, 0, 0) := by decide +kernel
theorem op78_260 : rn_op 78 260 = some (.ior, 1, 0, 0, 0) := by decide +kernel
theorem op78_261 : rn_op 78 261 = some (.iload 14, 2, 0, 0, 0) := by decide +kernel
theorem op78_263 : rn_op 78 263 = some (.invokevirtual 136, 3, 77, 7, 4) := by decide +kernel
theorem op78_266 : rn_op 78 266 = some (.aload_n 0, 1, 0, 0, 0) := by decide +kernel
theorem op78_267 : rn_op 78 267 = some (.dup, 1, 0, 0, 0) := by decide +kernel
theorem op78_268 : rn_op 78 268 = some (.getfield 173, 3, 4, 9, 0) := by decide +kernel
theorem op78_271 : rn_op 78 271 = some (.aload 8, 2, 0, 0, 0) := by decide +kernel
theorem op78_273 : rn_op 78 273 = some (.getfield 183, 3, 9, 1, 0) := by decide +kernel
theorem op78_276 : rn_op 78 276 = some (.iconst (-1), 1, 0, 0, 0) := by decide +kernel
theorem op78_277 : rn_op 78 277 = some (.ixor, 1, 0, 0, 0) := by decide +kernel
theorem op78_278 : rn_op 78 278 = some (.iand, 1, 0, 0, 0) := by decide +kernel
theorem op78_279 : rn_op 78 279 = some (.putfield 173, 3, 4, 9, 0) := by decide +kernel
theorem op78_282 : rn_op 78 282 = some (.iinc 9 1, 3, 0, 0, 0) := by decide +kernel
theorem op78_285 : rn_op 78 285 = some (.goto (-268), 3, 0, 0, 0) := by decide +kernel
theorem op78_288 : rn_op 78 288 = some (.return_, 1, 0, 0, 0) := by decide +kernel
def se_layTrick_l17 (rec : Int32 → Int32 → Int32 → Int32 → Int32 → Int32 → rn_Mem → Option (rn_Mem)) (a1 : Int32) (a2 : Int32) (a3 : Int32) (a4 : Int32) (a5 : Int32) (a6 : Int32) (a7 : Int32) (q8 : Nat) : Nat → Int32 → rn_Mem → Option (rn_Mem)
  | 0, _, _ => none
  | n + 1, a9, m =>
    if a9 < (m.1 q8 2) then
      if rn_in a9 24 = true then
        (some (m.1 (q8 + 1) a9.toNatClampNeg)).bind fun (x5 : Int32) =>
        if rn_in a9 24 = true then
          (se_chairsIn n (a4 &&& (m.1 (q8 + 2) a9.toNatClampNeg)) m).bind fun (r8, m7) =>
          (se_mayLead n a1 x5 a3 m7).bind fun (r11, m10) =>
          (show Option (rn_Mem) from
            if r11 = 0 then
              some (m10)
            else
              if r8 = 0 then
                (ja_bitCount n r8 m10).bind fun (r16, m15) =>
                (some (a5 + r16)).bind fun (x18 : Int32) =>
                if rn_in a9 24 = true then
                  (some (a4 ||| (m15.1 (q8 + 3) a9.toNatClampNeg))).bind fun (x20 : Int32) =>
                  if rn_in a9 24 = true then
                    (cl_againstTrick n 57 a1 x5 (m15.1 q8 1) (m15.1 51 9) x20 m15).bind fun (r23, m22) =>
                    (some ((a7 ||| (m15.1 (q8 + 4) a9.toNatClampNeg)) ||| r23)).bind fun (x25 : Int32) =>
                    (se_promises n x18 (a6 ||| r8) x25 m22).bind fun (r27, m26) =>
                    if r27 = 0 then
                      some (m26)
                    else
                      if rn_in a1 4 = true then
                        (some (rm_i m26 67 a1.toNatClampNeg ((a2 * 24) + a9))).bind fun (m30 : rn_Mem) =>
                        if a1 = 0 then
                          if (m30.1 51 10) = 0 then
                            (se_notePlay n x5 m30).bind fun m34 =>
                            some (m34)
                          else
                            if a1 = 0 then
                              (se_noteLess n x18 (a6 ||| r8) x25 m30).bind fun m37 =>
                              some (m37)
                            else
                              (some (rm_i m30 51 9 ((m30.1 51 9) ||| (m30.1 q8 1)))).bind fun (m39 : rn_Mem) =>
                              (show Option (Int32 × rn_Mem) from
                                if (m39.1 52 6) = 0 then
                                  some (x5, m39)
                                else
                                  (ga_previous n 52 x5 m39).bind fun (r42, m41) =>
                                  some (r42, m41)).bind fun (x45, m46) =>
                              (rec (a1 - 1) x45 x20 x18 (a6 ||| r8) x25 m46).bind fun m47 =>
                              (some (rm_i m47 51 9 ((m47.1 51 9) &&& ((m47.1 q8 1) ^^^ (-1))))).bind fun (m49 : rn_Mem) =>
                              some (m49)
                        else
                          if a1 = 0 then
                            (se_noteLess n x18 (a6 ||| r8) x25 m30).bind fun m52 =>
                            some (m52)
                          else
                            (some (rm_i m30 51 9 ((m30.1 51 9) ||| (m30.1 q8 1)))).bind fun (m54 : rn_Mem) =>
                            (show Option (Int32 × rn_Mem) from
                              if (m54.1 52 6) = 0 then
                                some (x5, m54)
                              else
                                (ga_previous n 52 x5 m54).bind fun (r57, m56) =>
                                some (r57, m56)).bind fun (x60, m61) =>
                            (rec (a1 - 1) x60 x20 x18 (a6 ||| r8) x25 m61).bind fun m62 =>
                            (some (rm_i m62 51 9 ((m62.1 51 9) &&& ((m62.1 q8 1) ^^^ (-1))))).bind fun (m64 : rn_Mem) =>
                            some (m64)
                      else none
                  else none
                else none
              else
                if (m10.1 51 10) = 2 then
                  (ja_bitCount n r8 m10).bind fun (r68, m67) =>
                  (some (a5 + r68)).bind fun (x70 : Int32) =>
                  if rn_in a9 24 = true then
                    (some (a4 ||| (m67.1 (q8 + 3) a9.toNatClampNeg))).bind fun (x72 : Int32) =>
                    if rn_in a9 24 = true then
                      (cl_againstTrick n 57 a1 x5 (m67.1 q8 1) (m67.1 51 9) x72 m67).bind fun (r75, m74) =>
                      (some ((a7 ||| (m67.1 (q8 + 4) a9.toNatClampNeg)) ||| r75)).bind fun (x77 : Int32) =>
                      (se_promises n x70 (a6 ||| r8) x77 m74).bind fun (r79, m78) =>
                      if r79 = 0 then
                        some (m78)
                      else
                        if rn_in a1 4 = true then
                          (some (rm_i m78 67 a1.toNatClampNeg ((a2 * 24) + a9))).bind fun (m82 : rn_Mem) =>
                          if a1 = 0 then
                            if (m82.1 51 10) = 0 then
                              (se_notePlay n x5 m82).bind fun m86 =>
                              some (m86)
                            else
                              if a1 = 0 then
                                (se_noteLess n x70 (a6 ||| r8) x77 m82).bind fun m89 =>
                                some (m89)
                              else
                                (some (rm_i m82 51 9 ((m82.1 51 9) ||| (m82.1 q8 1)))).bind fun (m91 : rn_Mem) =>
                                (show Option (Int32 × rn_Mem) from
                                  if (m91.1 52 6) = 0 then
                                    some (x5, m91)
                                  else
                                    (ga_previous n 52 x5 m91).bind fun (r94, m93) =>
                                    some (r94, m93)).bind fun (x97, m98) =>
                                (rec (a1 - 1) x97 x72 x70 (a6 ||| r8) x77 m98).bind fun m99 =>
                                (some (rm_i m99 51 9 ((m99.1 51 9) &&& ((m99.1 q8 1) ^^^ (-1))))).bind fun (m101 : rn_Mem) =>
                                some (m101)
                          else
                            if a1 = 0 then
                              (se_noteLess n x70 (a6 ||| r8) x77 m82).bind fun m104 =>
                              some (m104)
                            else
                              (some (rm_i m82 51 9 ((m82.1 51 9) ||| (m82.1 q8 1)))).bind fun (m106 : rn_Mem) =>
                              (show Option (Int32 × rn_Mem) from
                                if (m106.1 52 6) = 0 then
                                  some (x5, m106)
                                else
                                  (ga_previous n 52 x5 m106).bind fun (r109, m108) =>
                                  some (r109, m108)).bind fun (x112, m113) =>
                              (rec (a1 - 1) x112 x72 x70 (a6 ||| r8) x77 m113).bind fun m114 =>
                              (some (rm_i m114 51 9 ((m114.1 51 9) &&& ((m114.1 q8 1) ^^^ (-1))))).bind fun (m116 : rn_Mem) =>
                              some (m116)
                        else none
                    else none
                  else none
                else
                  some (m10)).bind fun m123 =>
          (some (a9 + 1)).bind fun (x124 : Int32) =>
          se_layTrick_l17 rec a1 a2 a3 a4 a5 a6 a7 q8 n x124 m123
        else none
      else none
    else
      some m
def se_layTrick (rec : Int32 → Int32 → Int32 → Int32 → Int32 → Int32 → rn_Mem → Option (rn_Mem)) (n : Nat) (a1 : Int32) (a2 : Int32) (a3 : Int32) (a4 : Int32) (a5 : Int32) (a6 : Int32) (a7 : Int32) (m : rn_Mem) : Option (rn_Mem) :=
  if a2 < 4 then
    if rn_in a2 4 = true then
      (se_layTrick_l17 rec a1 a2 a3 a4 a5 a6 a7 (70 + 8 * a2.toNatClampNeg) n 0 m).bind fun m126 =>
      some m126
    else none
  else
    some m
set_option maxHeartbeats 4000000 in
set_option maxRecDepth 20000 in
theorem se_layTrick_l17_ok (xs : List Int32) {d : Nat} (hd : 4 ≤ d) {rec : Int32 → Int32 → Int32 → Int32 → Int32 → Int32 → rn_Mem → Option (rn_Mem)} (hrec : ∀ {a1 : Int32} {a2 : Int32} {a3 : Int32} {a4 : Int32} {a5 : Int32} {a6 : Int32} {mI mO : rn_Mem} , rec a1 a2 a3 a4 a5 a6 mI = some mO → rn_R xs d 77 0 (rn_ent 8 [.ref 51, .int a1, .int a2, .int a3, .int a4, .int a5, .int a6]) [] (rn_SH, mI) none (rn_SH, mO)) {a1 : Int32} {a2 : Int32} {a3 : Int32} {a4 : Int32} {a5 : Int32} {a6 : Int32} {a7 : Int32} {q8 : Nat} {r : Option Value} {τ : rn_H} {out : rn_Mem} (hr : ∀ (mO : rn_Mem), out = mO → ∀ (o0 o1 o2 o3 o4 o5 o6 o7 o8 o9 o10 o11 o12 o13 o14 : Option Value), rn_R xs (d + 1) 78 288 [o0, o1, o2, o3, o4, o5, o6, o7, o8, o9, o10, o11, o12, o13, o14] [] (rn_SH, mO) r τ) : ∀ (n : Nat) (a9 : Int32) (o10 o11 o12 o13 o14 : Option Value) (m : rn_Mem), sA_Ways q8 → se_layTrick_l17 rec a1 a2 a3 a4 a5 a6 a7 q8 n a9 m = some out → rn_R xs (d + 1) 78 17 [some (.ref 51), some (.int a1), some (.int a2), some (.int a3), some (.int a4), some (.int a5), some (.int a6), some (.int a7), some (.ref q8), some (.int a9), o10, o11, o12, o13, o14] [] (rn_SH, m) r τ := by
  intro n
  induction n with
  | zero =>
    intro _ _ _ _ _ _ _ _ h
    cases h
  | succ n ih =>
    intro a9 o10 o11 o12 o13 o14 m hq8 h
    unfold se_layTrick_l17 at h
    try dsimp only at h
    refine rx_p (L2 := [some (.ref 51), some (.int a1), some (.int a2), some (.int a3), some (.int a4), some (.int a5), some (.int a6), some (.int a7), some (.ref q8), some (.int a9), o10, o11, o12, o13, o14]) (S2 := [.int a9]) (pc2 := 19) op78_17 rfl rfl ?_
    refine rx_p (L2 := [some (.ref 51), some (.int a1), some (.int a2), some (.int a3), some (.int a4), some (.int a5), some (.int a6), some (.int a7), some (.ref q8), some (.int a9), o10, o11, o12, o13, o14]) (S2 := [.ref q8, .int a9]) (pc2 := 21) op78_19 rfl rfl ?_
    refine rx_gf (v := .int (m.1 q8 2)) (pc2 := 24) op78_21 (hq8.1) rfl rfl rfl ?_
    refine ry_ic_ge (tgt := 288) (pc2 := 27) op78_24 (by decide) (by decide) rfl (fun b3 => ?_) (fun b3 => ?_)
    · have h := (if_pos b3).symm.trans h
      refine rx_p (L2 := [some (.ref 51), some (.int a1), some (.int a2), some (.int a3), some (.int a4), some (.int a5), some (.int a6), some (.int a7), some (.ref q8), some (.int a9), o10, o11, o12, o13, o14]) (S2 := [.ref q8]) (pc2 := 29) op78_27 rfl rfl ?_
      refine rx_gf (v := .ref (q8 + 1)) (pc2 := 32) op78_29 (hq8.1) rfl rfl rfl ?_
      refine rx_p (L2 := [some (.ref 51), some (.int a1), some (.int a2), some (.int a3), some (.int a4), some (.int a5), some (.int a6), some (.int a7), some (.ref q8), some (.int a9), o10, o11, o12, o13, o14]) (S2 := [.int a9, .ref (q8 + 1)]) (pc2 := 34) op78_32 rfl rfl ?_
      obtain ⟨k4, h⟩ := rq_chk h
      refine rx_ia (pc2 := 35) op78_34 (rn_shlt (hq8.2.1)) (hq8.2.1) k4 rfl rfl ?_
      obtain ⟨x5, ex5, h⟩ := rq_bv h
      refine rx_s (v := x5) (L2 := [some (.ref 51), some (.int a1), some (.int a2), some (.int a3), some (.int a4), some (.int a5), some (.int a6), some (.int a7), some (.ref q8), some (.int a9), some (.int x5), o11, o12, o13, o14]) (pc2 := 37) op78_35 ex5 rfl rfl ?_
      refine rx_p (L2 := [some (.ref 51), some (.int a1), some (.int a2), some (.int a3), some (.int a4), some (.int a5), some (.int a6), some (.int a7), some (.ref q8), some (.int a9), some (.int x5), o11, o12, o13, o14]) (S2 := [.int a4]) (pc2 := 39) op78_37 rfl rfl ?_
      refine rx_p (L2 := [some (.ref 51), some (.int a1), some (.int a2), some (.int a3), some (.int a4), some (.int a5), some (.int a6), some (.int a7), some (.ref q8), some (.int a9), some (.int x5), o11, o12, o13, o14]) (S2 := [.ref q8, .int a4]) (pc2 := 41) op78_39 rfl rfl ?_
      refine rx_gf (v := .ref (q8 + 2)) (pc2 := 44) op78_41 (hq8.1) rfl rfl rfl ?_
      refine rx_p (L2 := [some (.ref 51), some (.int a1), some (.int a2), some (.int a3), some (.int a4), some (.int a5), some (.int a6), some (.int a7), some (.ref q8), some (.int a9), some (.int x5), o11, o12, o13, o14]) (S2 := [.int a9, .ref (q8 + 2), .int a4]) (pc2 := 46) op78_44 rfl rfl ?_
      obtain ⟨k6, h⟩ := rq_chk h
      refine rx_ia (pc2 := 47) op78_46 (rn_shlt (hq8.2.2.1)) (hq8.2.2.1) k6 rfl rfl ?_
      refine rx_p (L2 := [some (.ref 51), some (.int a1), some (.int a2), some (.int a3), some (.int a4), some (.int a5), some (.int a6), some (.int a7), some (.ref q8), some (.int a9), some (.int x5), o11, o12, o13, o14]) (S2 := [.int (a4 &&& (m.1 (q8 + 2) a9.toNatClampNeg))]) (pc2 := 48) op78_47 rfl rfl ?_
      obtain ⟨⟨r8, m7⟩, f9, h⟩ := rq_bind h
      try dsimp only at h
      refine ry_is (vs := [.int (a4 &&& (m.1 (q8 + 2) a9.toNatClampNeg))]) (T := []) (pc2 := 51) op78_48 (by decide) ms_79 (by decide) rfl rfl (Nat.le_of_ble_eq_true rfl) (Nat.le_of_ble_eq_true rfl) (se_chairsIn_ok xs (by omega)  f9) rfl ?_
      show rn_R _ _ _ _ _ [.int r8] _ _ _
      refine rx_s (L2 := [some (.ref 51), some (.int a1), some (.int a2), some (.int a3), some (.int a4), some (.int a5), some (.int a6), some (.int a7), some (.ref q8), some (.int a9), some (.int x5), some (.int r8), o12, o13, o14]) (pc2 := 53) op78_51 rfl rfl rfl ?_
      refine rx_p (L2 := [some (.ref 51), some (.int a1), some (.int a2), some (.int a3), some (.int a4), some (.int a5), some (.int a6), some (.int a7), some (.ref q8), some (.int a9), some (.int x5), some (.int r8), o12, o13, o14]) (S2 := [.ref 51]) (pc2 := 54) op78_53 rfl rfl ?_
      refine rx_p (L2 := [some (.ref 51), some (.int a1), some (.int a2), some (.int a3), some (.int a4), some (.int a5), some (.int a6), some (.int a7), some (.ref q8), some (.int a9), some (.int x5), some (.int r8), o12, o13, o14]) (S2 := [.int a1, .ref 51]) (pc2 := 55) op78_54 rfl rfl ?_
      refine rx_p (L2 := [some (.ref 51), some (.int a1), some (.int a2), some (.int a3), some (.int a4), some (.int a5), some (.int a6), some (.int a7), some (.ref q8), some (.int a9), some (.int x5), some (.int r8), o12, o13, o14]) (S2 := [.int x5, .int a1, .ref 51]) (pc2 := 57) op78_55 rfl rfl ?_
      refine rx_p (L2 := [some (.ref 51), some (.int a1), some (.int a2), some (.int a3), some (.int a4), some (.int a5), some (.int a6), some (.int a7), some (.ref q8), some (.int a9), some (.int x5), some (.int r8), o12, o13, o14]) (S2 := [.int a3, .int x5, .int a1, .ref 51]) (pc2 := 58) op78_57 rfl rfl ?_
      obtain ⟨⟨r11, m10⟩, f12, h⟩ := rq_bind h
      try dsimp only at h
      refine ry_iv (p := 51) (vs := [.int a1, .int x5, .int a3]) (T := []) (pc2 := 61) op78_58 ms_80 (by decide) rfl rfl (Nat.le_of_ble_eq_true rfl) (Nat.le_of_ble_eq_true rfl) sp_51 (se_mayLead_ok xs (by omega)  f12) rfl ?_
      show rn_R _ _ _ _ _ [.int r11] _ _ _
      obtain ⟨m123, gc125, h⟩ := rq_bind h
      try dsimp only at h
      have c125 : ∀ (o118 o119 o120 o121 o122 : Option Value), rn_R xs (d + 1) 78 282 [some (.ref 51), some (.int a1), some (.int a2), some (.int a3), some (.int a4), some (.int a5), some (.int a6), some (.int a7), some (.ref q8), some (.int a9), o118, o119, o120, o121, o122] [] (rn_SH, m123) r τ := by
        intro o118 o119 o120 o121 o122
        obtain ⟨x124, ex124, h⟩ := rq_bv h
        refine rx_inc (w := 1) (v := x124) (L2 := [some (.ref 51), some (.int a1), some (.int a2), some (.int a3), some (.int a4), some (.int a5), some (.int a6), some (.int a7), some (.ref q8), some (.int x124), o118, o119, o120, o121, o122]) (pc2 := 285) op78_282 rfl (by decide) ex124 rfl rfl ?_
        refine ry_go (tgt := 17) op78_285 (by decide) (by decide) ?_
        exact ih _ _ _ _ _ _ _ hq8 h
      refine ry_if_eq (tgt := 282) (pc2 := 64) op78_61 (by decide) (by decide) rfl (fun b13 => ?_) (fun b13 => ?_)
      · have gc125 := (if_pos b13).symm.trans gc125
        cases gc125
        exact c125 _ _ _ _ _
      · have gc125 := (if_neg b13).symm.trans gc125
        refine rx_p (L2 := [some (.ref 51), some (.int a1), some (.int a2), some (.int a3), some (.int a4), some (.int a5), some (.int a6), some (.int a7), some (.ref q8), some (.int a9), some (.int x5), some (.int r8), o12, o13, o14]) (S2 := [.int r8]) (pc2 := 66) op78_64 rfl rfl ?_
        refine ry_if_eq (tgt := 80) (pc2 := 69) op78_66 (by decide) (by decide) rfl (fun b14 => ?_) (fun b14 => ?_)
        · have gc125 := (if_pos b14).symm.trans gc125
          refine rx_p (L2 := [some (.ref 51), some (.int a1), some (.int a2), some (.int a3), some (.int a4), some (.int a5), some (.int a6), some (.int a7), some (.ref q8), some (.int a9), some (.int x5), some (.int r8), o12, o13, o14]) (S2 := [.int a5]) (pc2 := 82) op78_80 rfl rfl ?_
          refine rx_p (L2 := [some (.ref 51), some (.int a1), some (.int a2), some (.int a3), some (.int a4), some (.int a5), some (.int a6), some (.int a7), some (.ref q8), some (.int a9), some (.int x5), some (.int r8), o12, o13, o14]) (S2 := [.int r8, .int a5]) (pc2 := 84) op78_82 rfl rfl ?_
          obtain ⟨⟨r16, m15⟩, f17, gc125⟩ := rq_bind gc125
          try dsimp only at gc125
          refine ry_is (vs := [.int r8]) (T := [.int a5]) (pc2 := 87) op78_84 (by decide) ms_81 (by decide) rfl rfl (Nat.le_of_ble_eq_true rfl) (Nat.le_of_ble_eq_true rfl) (ja_bitCount_ok xs (by omega)  f17) rfl ?_
          show rn_R _ _ _ _ _ [.int r16, .int a5] _ _ _
          refine rx_p (L2 := [some (.ref 51), some (.int a1), some (.int a2), some (.int a3), some (.int a4), some (.int a5), some (.int a6), some (.int a7), some (.ref q8), some (.int a9), some (.int x5), some (.int r8), o12, o13, o14]) (S2 := [.int (a5 + r16)]) (pc2 := 88) op78_87 rfl rfl ?_
          obtain ⟨x18, ex18, gc125⟩ := rq_bv gc125
          refine rx_s (v := x18) (L2 := [some (.ref 51), some (.int a1), some (.int a2), some (.int a3), some (.int a4), some (.int a5), some (.int a6), some (.int a7), some (.ref q8), some (.int a9), some (.int x5), some (.int r8), some (.int x18), o13, o14]) (pc2 := 90) op78_88 ex18 rfl rfl ?_
          refine rx_p (L2 := [some (.ref 51), some (.int a1), some (.int a2), some (.int a3), some (.int a4), some (.int a5), some (.int a6), some (.int a7), some (.ref q8), some (.int a9), some (.int x5), some (.int r8), some (.int x18), o13, o14]) (S2 := [.int a4]) (pc2 := 92) op78_90 rfl rfl ?_
          refine rx_p (L2 := [some (.ref 51), some (.int a1), some (.int a2), some (.int a3), some (.int a4), some (.int a5), some (.int a6), some (.int a7), some (.ref q8), some (.int a9), some (.int x5), some (.int r8), some (.int x18), o13, o14]) (S2 := [.ref q8, .int a4]) (pc2 := 94) op78_92 rfl rfl ?_
          refine rx_gf (v := .ref (q8 + 3)) (pc2 := 97) op78_94 (hq8.1) rfl rfl rfl ?_
          refine rx_p (L2 := [some (.ref 51), some (.int a1), some (.int a2), some (.int a3), some (.int a4), some (.int a5), some (.int a6), some (.int a7), some (.ref q8), some (.int a9), some (.int x5), some (.int r8), some (.int x18), o13, o14]) (S2 := [.int a9, .ref (q8 + 3), .int a4]) (pc2 := 99) op78_97 rfl rfl ?_
          obtain ⟨k19, gc125⟩ := rq_chk gc125
          refine rx_ia (pc2 := 100) op78_99 (rn_shlt (hq8.2.2.2.1)) (hq8.2.2.2.1) k19 rfl rfl ?_
          refine rx_p (L2 := [some (.ref 51), some (.int a1), some (.int a2), some (.int a3), some (.int a4), some (.int a5), some (.int a6), some (.int a7), some (.ref q8), some (.int a9), some (.int x5), some (.int r8), some (.int x18), o13, o14]) (S2 := [.int (a4 ||| (m15.1 (q8 + 3) a9.toNatClampNeg))]) (pc2 := 101) op78_100 rfl rfl ?_
          obtain ⟨x20, ex20, gc125⟩ := rq_bv gc125
          refine rx_s (v := x20) (L2 := [some (.ref 51), some (.int a1), some (.int a2), some (.int a3), some (.int a4), some (.int a5), some (.int a6), some (.int a7), some (.ref q8), some (.int a9), some (.int x5), some (.int r8), some (.int x18), some (.int x20), o14]) (pc2 := 103) op78_101 ex20 rfl rfl ?_
          refine rx_p (L2 := [some (.ref 51), some (.int a1), some (.int a2), some (.int a3), some (.int a4), some (.int a5), some (.int a6), some (.int a7), some (.ref q8), some (.int a9), some (.int x5), some (.int r8), some (.int x18), some (.int x20), o14]) (S2 := [.int a7]) (pc2 := 105) op78_103 rfl rfl ?_
          refine rx_p (L2 := [some (.ref 51), some (.int a1), some (.int a2), some (.int a3), some (.int a4), some (.int a5), some (.int a6), some (.int a7), some (.ref q8), some (.int a9), some (.int x5), some (.int r8), some (.int x18), some (.int x20), o14]) (S2 := [.ref q8, .int a7]) (pc2 := 107) op78_105 rfl rfl ?_
          refine rx_gf (v := .ref (q8 + 4)) (pc2 := 110) op78_107 (hq8.1) rfl rfl rfl ?_
          refine rx_p (L2 := [some (.ref 51), some (.int a1), some (.int a2), some (.int a3), some (.int a4), some (.int a5), some (.int a6), some (.int a7), some (.ref q8), some (.int a9), some (.int x5), some (.int r8), some (.int x18), some (.int x20), o14]) (S2 := [.int a9, .ref (q8 + 4), .int a7]) (pc2 := 112) op78_110 rfl rfl ?_
          obtain ⟨k21, gc125⟩ := rq_chk gc125
          refine rx_ia (pc2 := 113) op78_112 (rn_shlt (hq8.2.2.2.2.1)) (hq8.2.2.2.2.1) k21 rfl rfl ?_
          refine rx_p (L2 := [some (.ref 51), some (.int a1), some (.int a2), some (.int a3), some (.int a4), some (.int a5), some (.int a6), some (.int a7), some (.ref q8), some (.int a9), some (.int x5), some (.int r8), some (.int x18), some (.int x20), o14]) (S2 := [.int (a7 ||| (m15.1 (q8 + 4) a9.toNatClampNeg))]) (pc2 := 114) op78_113 rfl rfl ?_
          refine rx_p (L2 := [some (.ref 51), some (.int a1), some (.int a2), some (.int a3), some (.int a4), some (.int a5), some (.int a6), some (.int a7), some (.ref q8), some (.int a9), some (.int x5), some (.int r8), some (.int x18), some (.int x20), o14]) (S2 := [.ref 51, .int (a7 ||| (m15.1 (q8 + 4) a9.toNatClampNeg))]) (pc2 := 115) op78_114 rfl rfl ?_
          refine rx_gf (v := .ref 57) (pc2 := 118) op78_115 sp_51 rfl rfl rfl ?_
          refine rx_p (L2 := [some (.ref 51), some (.int a1), some (.int a2), some (.int a3), some (.int a4), some (.int a5), some (.int a6), some (.int a7), some (.ref q8), some (.int a9), some (.int x5), some (.int r8), some (.int x18), some (.int x20), o14]) (S2 := [.int a1, .ref 57, .int (a7 ||| (m15.1 (q8 + 4) a9.toNatClampNeg))]) (pc2 := 119) op78_118 rfl rfl ?_
          refine rx_p (L2 := [some (.ref 51), some (.int a1), some (.int a2), some (.int a3), some (.int a4), some (.int a5), some (.int a6), some (.int a7), some (.ref q8), some (.int a9), some (.int x5), some (.int r8), some (.int x18), some (.int x20), o14]) (S2 := [.int x5, .int a1, .ref 57, .int (a7 ||| (m15.1 (q8 + 4) a9.toNatClampNeg))]) (pc2 := 121) op78_119 rfl rfl ?_
          refine rx_p (L2 := [some (.ref 51), some (.int a1), some (.int a2), some (.int a3), some (.int a4), some (.int a5), some (.int a6), some (.int a7), some (.ref q8), some (.int a9), some (.int x5), some (.int r8), some (.int x18), some (.int x20), o14]) (S2 := [.ref q8, .int x5, .int a1, .ref 57, .int (a7 ||| (m15.1 (q8 + 4) a9.toNatClampNeg))]) (pc2 := 123) op78_121 rfl rfl ?_
          refine rx_gf (v := .int (m15.1 q8 1)) (pc2 := 126) op78_123 (hq8.1) rfl rfl rfl ?_
          refine rx_p (L2 := [some (.ref 51), some (.int a1), some (.int a2), some (.int a3), some (.int a4), some (.int a5), some (.int a6), some (.int a7), some (.ref q8), some (.int a9), some (.int x5), some (.int r8), some (.int x18), some (.int x20), o14]) (S2 := [.ref 51, .int (m15.1 q8 1), .int x5, .int a1, .ref 57, .int (a7 ||| (m15.1 (q8 + 4) a9.toNatClampNeg))]) (pc2 := 127) op78_126 rfl rfl ?_
          refine rx_gf (v := .int (m15.1 51 9)) (pc2 := 130) op78_127 sp_51 rfl rfl rfl ?_
          refine rx_p (L2 := [some (.ref 51), some (.int a1), some (.int a2), some (.int a3), some (.int a4), some (.int a5), some (.int a6), some (.int a7), some (.ref q8), some (.int a9), some (.int x5), some (.int r8), some (.int x18), some (.int x20), o14]) (S2 := [.int x20, .int (m15.1 51 9), .int (m15.1 q8 1), .int x5, .int a1, .ref 57, .int (a7 ||| (m15.1 (q8 + 4) a9.toNatClampNeg))]) (pc2 := 132) op78_130 rfl rfl ?_
          obtain ⟨⟨r23, m22⟩, f24, gc125⟩ := rq_bind gc125
          try dsimp only at gc125
          refine ry_iv (p := 57) (vs := [.int a1, .int x5, .int (m15.1 q8 1), .int (m15.1 51 9), .int x20]) (T := [.int (a7 ||| (m15.1 (q8 + 4) a9.toNatClampNeg))]) (pc2 := 135) op78_132 ms_82 (by decide) rfl rfl (Nat.le_of_ble_eq_true rfl) (Nat.le_of_ble_eq_true rfl) sp_57 (cl_againstTrick_ok xs (by omega) sa_57 f24) rfl ?_
          show rn_R _ _ _ _ _ [.int r23, .int (a7 ||| (m15.1 (q8 + 4) a9.toNatClampNeg))] _ _ _
          refine rx_p (L2 := [some (.ref 51), some (.int a1), some (.int a2), some (.int a3), some (.int a4), some (.int a5), some (.int a6), some (.int a7), some (.ref q8), some (.int a9), some (.int x5), some (.int r8), some (.int x18), some (.int x20), o14]) (S2 := [.int ((a7 ||| (m15.1 (q8 + 4) a9.toNatClampNeg)) ||| r23)]) (pc2 := 136) op78_135 rfl rfl ?_
          obtain ⟨x25, ex25, gc125⟩ := rq_bv gc125
          refine rx_s (v := x25) (L2 := [some (.ref 51), some (.int a1), some (.int a2), some (.int a3), some (.int a4), some (.int a5), some (.int a6), some (.int a7), some (.ref q8), some (.int a9), some (.int x5), some (.int r8), some (.int x18), some (.int x20), some (.int x25)]) (pc2 := 138) op78_136 ex25 rfl rfl ?_
          refine rx_p (L2 := [some (.ref 51), some (.int a1), some (.int a2), some (.int a3), some (.int a4), some (.int a5), some (.int a6), some (.int a7), some (.ref q8), some (.int a9), some (.int x5), some (.int r8), some (.int x18), some (.int x20), some (.int x25)]) (S2 := [.ref 51]) (pc2 := 139) op78_138 rfl rfl ?_
          refine rx_p (L2 := [some (.ref 51), some (.int a1), some (.int a2), some (.int a3), some (.int a4), some (.int a5), some (.int a6), some (.int a7), some (.ref q8), some (.int a9), some (.int x5), some (.int r8), some (.int x18), some (.int x20), some (.int x25)]) (S2 := [.int x18, .ref 51]) (pc2 := 141) op78_139 rfl rfl ?_
          refine rx_p (L2 := [some (.ref 51), some (.int a1), some (.int a2), some (.int a3), some (.int a4), some (.int a5), some (.int a6), some (.int a7), some (.ref q8), some (.int a9), some (.int x5), some (.int r8), some (.int x18), some (.int x20), some (.int x25)]) (S2 := [.int a6, .int x18, .ref 51]) (pc2 := 143) op78_141 rfl rfl ?_
          refine rx_p (L2 := [some (.ref 51), some (.int a1), some (.int a2), some (.int a3), some (.int a4), some (.int a5), some (.int a6), some (.int a7), some (.ref q8), some (.int a9), some (.int x5), some (.int r8), some (.int x18), some (.int x20), some (.int x25)]) (S2 := [.int r8, .int a6, .int x18, .ref 51]) (pc2 := 145) op78_143 rfl rfl ?_
          refine rx_p (L2 := [some (.ref 51), some (.int a1), some (.int a2), some (.int a3), some (.int a4), some (.int a5), some (.int a6), some (.int a7), some (.ref q8), some (.int a9), some (.int x5), some (.int r8), some (.int x18), some (.int x20), some (.int x25)]) (S2 := [.int (a6 ||| r8), .int x18, .ref 51]) (pc2 := 146) op78_145 rfl rfl ?_
          refine rx_p (L2 := [some (.ref 51), some (.int a1), some (.int a2), some (.int a3), some (.int a4), some (.int a5), some (.int a6), some (.int a7), some (.ref q8), some (.int a9), some (.int x5), some (.int r8), some (.int x18), some (.int x20), some (.int x25)]) (S2 := [.int x25, .int (a6 ||| r8), .int x18, .ref 51]) (pc2 := 148) op78_146 rfl rfl ?_
          obtain ⟨⟨r27, m26⟩, f28, gc125⟩ := rq_bind gc125
          try dsimp only at gc125
          refine ry_iv (p := 51) (vs := [.int x18, .int (a6 ||| r8), .int x25]) (T := []) (pc2 := 151) op78_148 ms_83 (by decide) rfl rfl (Nat.le_of_ble_eq_true rfl) (Nat.le_of_ble_eq_true rfl) sp_51 (se_promises_ok xs (by omega)  f28) rfl ?_
          show rn_R _ _ _ _ _ [.int r27] _ _ _
          refine ry_if_ne (tgt := 157) (pc2 := 154) op78_151 (by decide) (by decide) rfl (fun b29 => ?_) (fun b29 => ?_)
          · have gc125 := (if_pos b29).symm.trans gc125
            refine ry_go (tgt := 282) op78_154 (by decide) (by decide) ?_
            cases gc125
            exact c125 _ _ _ _ _
          · have gc125 := (if_neg b29).symm.trans gc125
            refine rx_p (L2 := [some (.ref 51), some (.int a1), some (.int a2), some (.int a3), some (.int a4), some (.int a5), some (.int a6), some (.int a7), some (.ref q8), some (.int a9), some (.int x5), some (.int r8), some (.int x18), some (.int x20), some (.int x25)]) (S2 := [.ref 51]) (pc2 := 158) op78_157 rfl rfl ?_
            refine rx_gf (v := .ref 67) (pc2 := 161) op78_158 sp_51 rfl rfl rfl ?_
            refine rx_p (L2 := [some (.ref 51), some (.int a1), some (.int a2), some (.int a3), some (.int a4), some (.int a5), some (.int a6), some (.int a7), some (.ref q8), some (.int a9), some (.int x5), some (.int r8), some (.int x18), some (.int x20), some (.int x25)]) (S2 := [.int a1, .ref 67]) (pc2 := 162) op78_161 rfl rfl ?_
            refine rx_p (L2 := [some (.ref 51), some (.int a1), some (.int a2), some (.int a3), some (.int a4), some (.int a5), some (.int a6), some (.int a7), some (.ref q8), some (.int a9), some (.int x5), some (.int r8), some (.int x18), some (.int x20), some (.int x25)]) (S2 := [.int a2, .int a1, .ref 67]) (pc2 := 163) op78_162 rfl rfl ?_
            refine rx_bp (v := 24) (pc2 := 165) op78_163 (by decide) rfl ?_
            refine rx_p (L2 := [some (.ref 51), some (.int a1), some (.int a2), some (.int a3), some (.int a4), some (.int a5), some (.int a6), some (.int a7), some (.ref q8), some (.int a9), some (.int x5), some (.int r8), some (.int x18), some (.int x20), some (.int x25)]) (S2 := [.int (a2 * 24), .int a1, .ref 67]) (pc2 := 166) op78_165 rfl rfl ?_
            refine rx_p (L2 := [some (.ref 51), some (.int a1), some (.int a2), some (.int a3), some (.int a4), some (.int a5), some (.int a6), some (.int a7), some (.ref q8), some (.int a9), some (.int x5), some (.int r8), some (.int x18), some (.int x20), some (.int x25)]) (S2 := [.int a9, .int (a2 * 24), .int a1, .ref 67]) (pc2 := 168) op78_166 rfl rfl ?_
            refine rx_p (L2 := [some (.ref 51), some (.int a1), some (.int a2), some (.int a3), some (.int a4), some (.int a5), some (.int a6), some (.int a7), some (.ref q8), some (.int a9), some (.int x5), some (.int r8), some (.int x18), some (.int x20), some (.int x25)]) (S2 := [.int ((a2 * 24) + a9), .int a1, .ref 67]) (pc2 := 169) op78_168 rfl rfl ?_
            obtain ⟨k31, gc125⟩ := rq_chk gc125
            obtain ⟨m30, em30, gc125⟩ := rq_bv gc125
            refine rx_is (m2 := m30) (pc2 := 170) op78_169 sp_67 k31 rfl em30 rfl ?_
            refine rx_p (L2 := [some (.ref 51), some (.int a1), some (.int a2), some (.int a3), some (.int a4), some (.int a5), some (.int a6), some (.int a7), some (.ref q8), some (.int a9), some (.int x5), some (.int r8), some (.int x18), some (.int x20), some (.int x25)]) (S2 := [.int a1]) (pc2 := 171) op78_170 rfl rfl ?_
            refine ry_if_ne (tgt := 190) (pc2 := 174) op78_171 (by decide) (by decide) rfl (fun b32 => ?_) (fun b32 => ?_)
            · have gc125 := (if_pos b32).symm.trans gc125
              refine rx_p (L2 := [some (.ref 51), some (.int a1), some (.int a2), some (.int a3), some (.int a4), some (.int a5), some (.int a6), some (.int a7), some (.ref q8), some (.int a9), some (.int x5), some (.int r8), some (.int x18), some (.int x20), some (.int x25)]) (S2 := [.ref 51]) (pc2 := 175) op78_174 rfl rfl ?_
              refine rx_gf (v := .int (m30.1 51 10)) (pc2 := 178) op78_175 sp_51 rfl rfl rfl ?_
              refine ry_if_ne (tgt := 190) (pc2 := 181) op78_178 (by decide) (by decide) rfl (fun b33 => ?_) (fun b33 => ?_)
              · have gc125 := (if_pos b33).symm.trans gc125
                refine rx_p (L2 := [some (.ref 51), some (.int a1), some (.int a2), some (.int a3), some (.int a4), some (.int a5), some (.int a6), some (.int a7), some (.ref q8), some (.int a9), some (.int x5), some (.int r8), some (.int x18), some (.int x20), some (.int x25)]) (S2 := [.ref 51]) (pc2 := 182) op78_181 rfl rfl ?_
                refine rx_p (L2 := [some (.ref 51), some (.int a1), some (.int a2), some (.int a3), some (.int a4), some (.int a5), some (.int a6), some (.int a7), some (.ref q8), some (.int a9), some (.int x5), some (.int r8), some (.int x18), some (.int x20), some (.int x25)]) (S2 := [.int x5, .ref 51]) (pc2 := 184) op78_182 rfl rfl ?_
                obtain ⟨m34, f35, gc125⟩ := rq_bind gc125
                try dsimp only at gc125
                refine ry_iv (p := 51) (vs := [.int x5]) (T := []) (pc2 := 187) op78_184 ms_85 (by decide) rfl rfl (Nat.le_of_ble_eq_true rfl) (Nat.le_of_ble_eq_true rfl) sp_51 (se_notePlay_ok xs (by omega)  f35) rfl ?_
                show rn_R _ _ _ _ _ [] _ _ _
                refine ry_go (tgt := 282) op78_187 (by decide) (by decide) ?_
                cases gc125
                exact c125 _ _ _ _ _
              · have gc125 := (if_neg b33).symm.trans gc125
                refine rx_p (L2 := [some (.ref 51), some (.int a1), some (.int a2), some (.int a3), some (.int a4), some (.int a5), some (.int a6), some (.int a7), some (.ref q8), some (.int a9), some (.int x5), some (.int r8), some (.int x18), some (.int x20), some (.int x25)]) (S2 := [.int a1]) (pc2 := 191) op78_190 rfl rfl ?_
                refine ry_if_ne (tgt := 210) (pc2 := 194) op78_191 (by decide) (by decide) rfl (fun b36 => ?_) (fun b36 => ?_)
                · have gc125 := (if_pos b36).symm.trans gc125
                  refine rx_p (L2 := [some (.ref 51), some (.int a1), some (.int a2), some (.int a3), some (.int a4), some (.int a5), some (.int a6), some (.int a7), some (.ref q8), some (.int a9), some (.int x5), some (.int r8), some (.int x18), some (.int x20), some (.int x25)]) (S2 := [.ref 51]) (pc2 := 195) op78_194 rfl rfl ?_
                  refine rx_p (L2 := [some (.ref 51), some (.int a1), some (.int a2), some (.int a3), some (.int a4), some (.int a5), some (.int a6), some (.int a7), some (.ref q8), some (.int a9), some (.int x5), some (.int r8), some (.int x18), some (.int x20), some (.int x25)]) (S2 := [.int x18, .ref 51]) (pc2 := 197) op78_195 rfl rfl ?_
                  refine rx_p (L2 := [some (.ref 51), some (.int a1), some (.int a2), some (.int a3), some (.int a4), some (.int a5), some (.int a6), some (.int a7), some (.ref q8), some (.int a9), some (.int x5), some (.int r8), some (.int x18), some (.int x20), some (.int x25)]) (S2 := [.int a6, .int x18, .ref 51]) (pc2 := 199) op78_197 rfl rfl ?_
                  refine rx_p (L2 := [some (.ref 51), some (.int a1), some (.int a2), some (.int a3), some (.int a4), some (.int a5), some (.int a6), some (.int a7), some (.ref q8), some (.int a9), some (.int x5), some (.int r8), some (.int x18), some (.int x20), some (.int x25)]) (S2 := [.int r8, .int a6, .int x18, .ref 51]) (pc2 := 201) op78_199 rfl rfl ?_
                  refine rx_p (L2 := [some (.ref 51), some (.int a1), some (.int a2), some (.int a3), some (.int a4), some (.int a5), some (.int a6), some (.int a7), some (.ref q8), some (.int a9), some (.int x5), some (.int r8), some (.int x18), some (.int x20), some (.int x25)]) (S2 := [.int (a6 ||| r8), .int x18, .ref 51]) (pc2 := 202) op78_201 rfl rfl ?_
                  refine rx_p (L2 := [some (.ref 51), some (.int a1), some (.int a2), some (.int a3), some (.int a4), some (.int a5), some (.int a6), some (.int a7), some (.ref q8), some (.int a9), some (.int x5), some (.int r8), some (.int x18), some (.int x20), some (.int x25)]) (S2 := [.int x25, .int (a6 ||| r8), .int x18, .ref 51]) (pc2 := 204) op78_202 rfl rfl ?_
                  obtain ⟨m37, f38, gc125⟩ := rq_bind gc125
                  try dsimp only at gc125
                  refine ry_iv (p := 51) (vs := [.int x18, .int (a6 ||| r8), .int x25]) (T := []) (pc2 := 207) op78_204 ms_87 (by decide) rfl rfl (Nat.le_of_ble_eq_true rfl) (Nat.le_of_ble_eq_true rfl) sp_51 (se_noteLess_ok xs (by omega)  f38) rfl ?_
                  show rn_R _ _ _ _ _ [] _ _ _
                  refine ry_go (tgt := 282) op78_207 (by decide) (by decide) ?_
                  cases gc125
                  exact c125 _ _ _ _ _
                · have gc125 := (if_neg b36).symm.trans gc125
                  refine rx_p (L2 := [some (.ref 51), some (.int a1), some (.int a2), some (.int a3), some (.int a4), some (.int a5), some (.int a6), some (.int a7), some (.ref q8), some (.int a9), some (.int x5), some (.int r8), some (.int x18), some (.int x20), some (.int x25)]) (S2 := [.ref 51]) (pc2 := 211) op78_210 rfl rfl ?_
                  refine rx_p (L2 := [some (.ref 51), some (.int a1), some (.int a2), some (.int a3), some (.int a4), some (.int a5), some (.int a6), some (.int a7), some (.ref q8), some (.int a9), some (.int x5), some (.int r8), some (.int x18), some (.int x20), some (.int x25)]) (S2 := [.ref 51, .ref 51]) (pc2 := 212) op78_211 rfl rfl ?_
                  refine rx_gf (v := .int (m30.1 51 9)) (pc2 := 215) op78_212 sp_51 rfl rfl rfl ?_
                  refine rx_p (L2 := [some (.ref 51), some (.int a1), some (.int a2), some (.int a3), some (.int a4), some (.int a5), some (.int a6), some (.int a7), some (.ref q8), some (.int a9), some (.int x5), some (.int r8), some (.int x18), some (.int x20), some (.int x25)]) (S2 := [.ref q8, .int (m30.1 51 9), .ref 51]) (pc2 := 217) op78_215 rfl rfl ?_
                  refine rx_gf (v := .int (m30.1 q8 1)) (pc2 := 220) op78_217 (hq8.1) rfl rfl rfl ?_
                  refine rx_p (L2 := [some (.ref 51), some (.int a1), some (.int a2), some (.int a3), some (.int a4), some (.int a5), some (.int a6), some (.int a7), some (.ref q8), some (.int a9), some (.int x5), some (.int r8), some (.int x18), some (.int x20), some (.int x25)]) (S2 := [.int ((m30.1 51 9) ||| (m30.1 q8 1)), .ref 51]) (pc2 := 221) op78_220 rfl rfl ?_
                  obtain ⟨m39, em39, gc125⟩ := rq_bv gc125
                  refine rx_pf (m2 := m39) (pc2 := 224) op78_221 sp_51 rfl em39 rfl ?_
                  refine rx_p (L2 := [some (.ref 51), some (.int a1), some (.int a2), some (.int a3), some (.int a4), some (.int a5), some (.int a6), some (.int a7), some (.ref q8), some (.int a9), some (.int x5), some (.int r8), some (.int x18), some (.int x20), some (.int x25)]) (S2 := [.ref 51]) (pc2 := 225) op78_224 rfl rfl ?_
                  refine rx_p (L2 := [some (.ref 51), some (.int a1), some (.int a2), some (.int a3), some (.int a4), some (.int a5), some (.int a6), some (.int a7), some (.ref q8), some (.int a9), some (.int x5), some (.int r8), some (.int x18), some (.int x20), some (.int x25)]) (S2 := [.int a1, .ref 51]) (pc2 := 226) op78_225 rfl rfl ?_
                  refine rx_ic (v := 1) (pc2 := 227) op78_226 (by decide) rfl ?_
                  refine rx_p (L2 := [some (.ref 51), some (.int a1), some (.int a2), some (.int a3), some (.int a4), some (.int a5), some (.int a6), some (.int a7), some (.ref q8), some (.int a9), some (.int x5), some (.int r8), some (.int x18), some (.int x20), some (.int x25)]) (S2 := [.int (a1 - 1), .ref 51]) (pc2 := 228) op78_227 rfl rfl ?_
                  refine rx_p (L2 := [some (.ref 51), some (.int a1), some (.int a2), some (.int a3), some (.int a4), some (.int a5), some (.int a6), some (.int a7), some (.ref q8), some (.int a9), some (.int x5), some (.int r8), some (.int x18), some (.int x20), some (.int x25)]) (S2 := [.ref 51, .int (a1 - 1), .ref 51]) (pc2 := 229) op78_228 rfl rfl ?_
                  refine rx_gf (v := .ref 52) (pc2 := 232) op78_229 sp_51 rfl rfl rfl ?_
                  refine rx_gf (v := .int (m39.1 52 6)) (pc2 := 235) op78_232 sp_52 rfl rfl rfl ?_
                  obtain ⟨⟨x45, m46⟩, gc50, gc125⟩ := rq_bind gc125
                  try dsimp only at gc125
                  have c50 : ∀ (o44 : Option Value), rn_R xs (d + 1) 78 252 [some (.ref 51), some (.int a1), some (.int a2), some (.int a3), some (.int a4), some (.int a5), some (.int a6), some (.int a7), some (.ref q8), some (.int a9), o44, some (.int r8), some (.int x18), some (.int x20), some (.int x25)] [.int x45, .int (a1 - 1), .ref 51] (rn_SH, m46) r τ := by
                    intro o44
                    refine rx_p (L2 := [some (.ref 51), some (.int a1), some (.int a2), some (.int a3), some (.int a4), some (.int a5), some (.int a6), some (.int a7), some (.ref q8), some (.int a9), o44, some (.int r8), some (.int x18), some (.int x20), some (.int x25)]) (S2 := [.int x20, .int x45, .int (a1 - 1), .ref 51]) (pc2 := 254) op78_252 rfl rfl ?_
                    refine rx_p (L2 := [some (.ref 51), some (.int a1), some (.int a2), some (.int a3), some (.int a4), some (.int a5), some (.int a6), some (.int a7), some (.ref q8), some (.int a9), o44, some (.int r8), some (.int x18), some (.int x20), some (.int x25)]) (S2 := [.int x18, .int x20, .int x45, .int (a1 - 1), .ref 51]) (pc2 := 256) op78_254 rfl rfl ?_
                    refine rx_p (L2 := [some (.ref 51), some (.int a1), some (.int a2), some (.int a3), some (.int a4), some (.int a5), some (.int a6), some (.int a7), some (.ref q8), some (.int a9), o44, some (.int r8), some (.int x18), some (.int x20), some (.int x25)]) (S2 := [.int a6, .int x18, .int x20, .int x45, .int (a1 - 1), .ref 51]) (pc2 := 258) op78_256 rfl rfl ?_
                    refine rx_p (L2 := [some (.ref 51), some (.int a1), some (.int a2), some (.int a3), some (.int a4), some (.int a5), some (.int a6), some (.int a7), some (.ref q8), some (.int a9), o44, some (.int r8), some (.int x18), some (.int x20), some (.int x25)]) (S2 := [.int r8, .int a6, .int x18, .int x20, .int x45, .int (a1 - 1), .ref 51]) (pc2 := 260) op78_258 rfl rfl ?_
                    refine rx_p (L2 := [some (.ref 51), some (.int a1), some (.int a2), some (.int a3), some (.int a4), some (.int a5), some (.int a6), some (.int a7), some (.ref q8), some (.int a9), o44, some (.int r8), some (.int x18), some (.int x20), some (.int x25)]) (S2 := [.int (a6 ||| r8), .int x18, .int x20, .int x45, .int (a1 - 1), .ref 51]) (pc2 := 261) op78_260 rfl rfl ?_
                    refine rx_p (L2 := [some (.ref 51), some (.int a1), some (.int a2), some (.int a3), some (.int a4), some (.int a5), some (.int a6), some (.int a7), some (.ref q8), some (.int a9), o44, some (.int r8), some (.int x18), some (.int x20), some (.int x25)]) (S2 := [.int x25, .int (a6 ||| r8), .int x18, .int x20, .int x45, .int (a1 - 1), .ref 51]) (pc2 := 263) op78_261 rfl rfl ?_
                    obtain ⟨m47, f48, gc125⟩ := rq_bind gc125
                    try dsimp only at gc125
                    refine ry_iv (p := 51) (vs := [.int (a1 - 1), .int x45, .int x20, .int x18, .int (a6 ||| r8), .int x25]) (T := []) (pc2 := 266) op78_263 ms_77 (by decide) rfl rfl (Nat.le_of_ble_eq_true rfl) (Nat.le_of_ble_eq_true rfl) sp_51 (hrec  f48) rfl ?_
                    show rn_R _ _ _ _ _ [] _ _ _
                    refine rx_p (L2 := [some (.ref 51), some (.int a1), some (.int a2), some (.int a3), some (.int a4), some (.int a5), some (.int a6), some (.int a7), some (.ref q8), some (.int a9), o44, some (.int r8), some (.int x18), some (.int x20), some (.int x25)]) (S2 := [.ref 51]) (pc2 := 267) op78_266 rfl rfl ?_
                    refine rx_p (L2 := [some (.ref 51), some (.int a1), some (.int a2), some (.int a3), some (.int a4), some (.int a5), some (.int a6), some (.int a7), some (.ref q8), some (.int a9), o44, some (.int r8), some (.int x18), some (.int x20), some (.int x25)]) (S2 := [.ref 51, .ref 51]) (pc2 := 268) op78_267 rfl rfl ?_
                    refine rx_gf (v := .int (m47.1 51 9)) (pc2 := 271) op78_268 sp_51 rfl rfl rfl ?_
                    refine rx_p (L2 := [some (.ref 51), some (.int a1), some (.int a2), some (.int a3), some (.int a4), some (.int a5), some (.int a6), some (.int a7), some (.ref q8), some (.int a9), o44, some (.int r8), some (.int x18), some (.int x20), some (.int x25)]) (S2 := [.ref q8, .int (m47.1 51 9), .ref 51]) (pc2 := 273) op78_271 rfl rfl ?_
                    refine rx_gf (v := .int (m47.1 q8 1)) (pc2 := 276) op78_273 (hq8.1) rfl rfl rfl ?_
                    refine rx_ic (v := (-1)) (pc2 := 277) op78_276 (by decide) rfl ?_
                    refine rx_p (L2 := [some (.ref 51), some (.int a1), some (.int a2), some (.int a3), some (.int a4), some (.int a5), some (.int a6), some (.int a7), some (.ref q8), some (.int a9), o44, some (.int r8), some (.int x18), some (.int x20), some (.int x25)]) (S2 := [.int ((m47.1 q8 1) ^^^ (-1)), .int (m47.1 51 9), .ref 51]) (pc2 := 278) op78_277 rfl rfl ?_
                    refine rx_p (L2 := [some (.ref 51), some (.int a1), some (.int a2), some (.int a3), some (.int a4), some (.int a5), some (.int a6), some (.int a7), some (.ref q8), some (.int a9), o44, some (.int r8), some (.int x18), some (.int x20), some (.int x25)]) (S2 := [.int ((m47.1 51 9) &&& ((m47.1 q8 1) ^^^ (-1))), .ref 51]) (pc2 := 279) op78_278 rfl rfl ?_
                    obtain ⟨m49, em49, gc125⟩ := rq_bv gc125
                    refine rx_pf (m2 := m49) (pc2 := 282) op78_279 sp_51 rfl em49 rfl ?_
                    cases gc125
                    exact c125 _ _ _ _ _
                  refine ry_if_ne (tgt := 243) (pc2 := 238) op78_235 (by decide) (by decide) rfl (fun b40 => ?_) (fun b40 => ?_)
                  · have gc50 := (if_pos b40).symm.trans gc50
                    refine rx_p (L2 := [some (.ref 51), some (.int a1), some (.int a2), some (.int a3), some (.int a4), some (.int a5), some (.int a6), some (.int a7), some (.ref q8), some (.int a9), some (.int x5), some (.int r8), some (.int x18), some (.int x20), some (.int x25)]) (S2 := [.int x5, .int (a1 - 1), .ref 51]) (pc2 := 240) op78_238 rfl rfl ?_
                    refine ry_go (tgt := 252) op78_240 (by decide) (by decide) ?_
                    cases gc50
                    exact c50 _
                  · have gc50 := (if_neg b40).symm.trans gc50
                    refine rx_p (L2 := [some (.ref 51), some (.int a1), some (.int a2), some (.int a3), some (.int a4), some (.int a5), some (.int a6), some (.int a7), some (.ref q8), some (.int a9), some (.int x5), some (.int r8), some (.int x18), some (.int x20), some (.int x25)]) (S2 := [.ref 51, .int (a1 - 1), .ref 51]) (pc2 := 244) op78_243 rfl rfl ?_
                    refine rx_gf (v := .ref 52) (pc2 := 247) op78_244 sp_51 rfl rfl rfl ?_
                    refine rx_p (L2 := [some (.ref 51), some (.int a1), some (.int a2), some (.int a3), some (.int a4), some (.int a5), some (.int a6), some (.int a7), some (.ref q8), some (.int a9), some (.int x5), some (.int r8), some (.int x18), some (.int x20), some (.int x25)]) (S2 := [.int x5, .ref 52, .int (a1 - 1), .ref 51]) (pc2 := 249) op78_247 rfl rfl ?_
                    obtain ⟨⟨r42, m41⟩, f43, gc50⟩ := rq_bind gc50
                    try dsimp only at gc50
                    refine ry_iv (p := 52) (vs := [.int x5]) (T := [.int (a1 - 1), .ref 51]) (pc2 := 252) op78_249 ms_88 (by decide) rfl rfl (Nat.le_of_ble_eq_true rfl) (Nat.le_of_ble_eq_true rfl) sp_52 (ga_previous_ok xs (by omega) sa_52 f43) rfl ?_
                    show rn_R _ _ _ _ _ [.int r42, .int (a1 - 1), .ref 51] _ _ _
                    cases gc50
                    exact c50 _
            · have gc125 := (if_neg b32).symm.trans gc125
              refine rx_p (L2 := [some (.ref 51), some (.int a1), some (.int a2), some (.int a3), some (.int a4), some (.int a5), some (.int a6), some (.int a7), some (.ref q8), some (.int a9), some (.int x5), some (.int r8), some (.int x18), some (.int x20), some (.int x25)]) (S2 := [.int a1]) (pc2 := 191) op78_190 rfl rfl ?_
              refine ry_if_ne (tgt := 210) (pc2 := 194) op78_191 (by decide) (by decide) rfl (fun b51 => ?_) (fun b51 => ?_)
              · have gc125 := (if_pos b51).symm.trans gc125
                refine rx_p (L2 := [some (.ref 51), some (.int a1), some (.int a2), some (.int a3), some (.int a4), some (.int a5), some (.int a6), some (.int a7), some (.ref q8), some (.int a9), some (.int x5), some (.int r8), some (.int x18), some (.int x20), some (.int x25)]) (S2 := [.ref 51]) (pc2 := 195) op78_194 rfl rfl ?_
                refine rx_p (L2 := [some (.ref 51), some (.int a1), some (.int a2), some (.int a3), some (.int a4), some (.int a5), some (.int a6), some (.int a7), some (.ref q8), some (.int a9), some (.int x5), some (.int r8), some (.int x18), some (.int x20), some (.int x25)]) (S2 := [.int x18, .ref 51]) (pc2 := 197) op78_195 rfl rfl ?_
                refine rx_p (L2 := [some (.ref 51), some (.int a1), some (.int a2), some (.int a3), some (.int a4), some (.int a5), some (.int a6), some (.int a7), some (.ref q8), some (.int a9), some (.int x5), some (.int r8), some (.int x18), some (.int x20), some (.int x25)]) (S2 := [.int a6, .int x18, .ref 51]) (pc2 := 199) op78_197 rfl rfl ?_
                refine rx_p (L2 := [some (.ref 51), some (.int a1), some (.int a2), some (.int a3), some (.int a4), some (.int a5), some (.int a6), some (.int a7), some (.ref q8), some (.int a9), some (.int x5), some (.int r8), some (.int x18), some (.int x20), some (.int x25)]) (S2 := [.int r8, .int a6, .int x18, .ref 51]) (pc2 := 201) op78_199 rfl rfl ?_
                refine rx_p (L2 := [some (.ref 51), some (.int a1), some (.int a2), some (.int a3), some (.int a4), some (.int a5), some (.int a6), some (.int a7), some (.ref q8), some (.int a9), some (.int x5), some (.int r8), some (.int x18), some (.int x20), some (.int x25)]) (S2 := [.int (a6 ||| r8), .int x18, .ref 51]) (pc2 := 202) op78_201 rfl rfl ?_
                refine rx_p (L2 := [some (.ref 51), some (.int a1), some (.int a2), some (.int a3), some (.int a4), some (.int a5), some (.int a6), some (.int a7), some (.ref q8), some (.int a9), some (.int x5), some (.int r8), some (.int x18), some (.int x20), some (.int x25)]) (S2 := [.int x25, .int (a6 ||| r8), .int x18, .ref 51]) (pc2 := 204) op78_202 rfl rfl ?_
                obtain ⟨m52, f53, gc125⟩ := rq_bind gc125
                try dsimp only at gc125
                refine ry_iv (p := 51) (vs := [.int x18, .int (a6 ||| r8), .int x25]) (T := []) (pc2 := 207) op78_204 ms_87 (by decide) rfl rfl (Nat.le_of_ble_eq_true rfl) (Nat.le_of_ble_eq_true rfl) sp_51 (se_noteLess_ok xs (by omega)  f53) rfl ?_
                show rn_R _ _ _ _ _ [] _ _ _
                refine ry_go (tgt := 282) op78_207 (by decide) (by decide) ?_
                cases gc125
                exact c125 _ _ _ _ _
              · have gc125 := (if_neg b51).symm.trans gc125
                refine rx_p (L2 := [some (.ref 51), some (.int a1), some (.int a2), some (.int a3), some (.int a4), some (.int a5), some (.int a6), some (.int a7), some (.ref q8), some (.int a9), some (.int x5), some (.int r8), some (.int x18), some (.int x20), some (.int x25)]) (S2 := [.ref 51]) (pc2 := 211) op78_210 rfl rfl ?_
                refine rx_p (L2 := [some (.ref 51), some (.int a1), some (.int a2), some (.int a3), some (.int a4), some (.int a5), some (.int a6), some (.int a7), some (.ref q8), some (.int a9), some (.int x5), some (.int r8), some (.int x18), some (.int x20), some (.int x25)]) (S2 := [.ref 51, .ref 51]) (pc2 := 212) op78_211 rfl rfl ?_
                refine rx_gf (v := .int (m30.1 51 9)) (pc2 := 215) op78_212 sp_51 rfl rfl rfl ?_
                refine rx_p (L2 := [some (.ref 51), some (.int a1), some (.int a2), some (.int a3), some (.int a4), some (.int a5), some (.int a6), some (.int a7), some (.ref q8), some (.int a9), some (.int x5), some (.int r8), some (.int x18), some (.int x20), some (.int x25)]) (S2 := [.ref q8, .int (m30.1 51 9), .ref 51]) (pc2 := 217) op78_215 rfl rfl ?_
                refine rx_gf (v := .int (m30.1 q8 1)) (pc2 := 220) op78_217 (hq8.1) rfl rfl rfl ?_
                refine rx_p (L2 := [some (.ref 51), some (.int a1), some (.int a2), some (.int a3), some (.int a4), some (.int a5), some (.int a6), some (.int a7), some (.ref q8), some (.int a9), some (.int x5), some (.int r8), some (.int x18), some (.int x20), some (.int x25)]) (S2 := [.int ((m30.1 51 9) ||| (m30.1 q8 1)), .ref 51]) (pc2 := 221) op78_220 rfl rfl ?_
                obtain ⟨m54, em54, gc125⟩ := rq_bv gc125
                refine rx_pf (m2 := m54) (pc2 := 224) op78_221 sp_51 rfl em54 rfl ?_
                refine rx_p (L2 := [some (.ref 51), some (.int a1), some (.int a2), some (.int a3), some (.int a4), some (.int a5), some (.int a6), some (.int a7), some (.ref q8), some (.int a9), some (.int x5), some (.int r8), some (.int x18), some (.int x20), some (.int x25)]) (S2 := [.ref 51]) (pc2 := 225) op78_224 rfl rfl ?_
                refine rx_p (L2 := [some (.ref 51), some (.int a1), some (.int a2), some (.int a3), some (.int a4), some (.int a5), some (.int a6), some (.int a7), some (.ref q8), some (.int a9), some (.int x5), some (.int r8), some (.int x18), some (.int x20), some (.int x25)]) (S2 := [.int a1, .ref 51]) (pc2 := 226) op78_225 rfl rfl ?_
                refine rx_ic (v := 1) (pc2 := 227) op78_226 (by decide) rfl ?_
                refine rx_p (L2 := [some (.ref 51), some (.int a1), some (.int a2), some (.int a3), some (.int a4), some (.int a5), some (.int a6), some (.int a7), some (.ref q8), some (.int a9), some (.int x5), some (.int r8), some (.int x18), some (.int x20), some (.int x25)]) (S2 := [.int (a1 - 1), .ref 51]) (pc2 := 228) op78_227 rfl rfl ?_
                refine rx_p (L2 := [some (.ref 51), some (.int a1), some (.int a2), some (.int a3), some (.int a4), some (.int a5), some (.int a6), some (.int a7), some (.ref q8), some (.int a9), some (.int x5), some (.int r8), some (.int x18), some (.int x20), some (.int x25)]) (S2 := [.ref 51, .int (a1 - 1), .ref 51]) (pc2 := 229) op78_228 rfl rfl ?_
                refine rx_gf (v := .ref 52) (pc2 := 232) op78_229 sp_51 rfl rfl rfl ?_
                refine rx_gf (v := .int (m54.1 52 6)) (pc2 := 235) op78_232 sp_52 rfl rfl rfl ?_
                obtain ⟨⟨x60, m61⟩, gc65, gc125⟩ := rq_bind gc125
                try dsimp only at gc125
                have c65 : ∀ (o59 : Option Value), rn_R xs (d + 1) 78 252 [some (.ref 51), some (.int a1), some (.int a2), some (.int a3), some (.int a4), some (.int a5), some (.int a6), some (.int a7), some (.ref q8), some (.int a9), o59, some (.int r8), some (.int x18), some (.int x20), some (.int x25)] [.int x60, .int (a1 - 1), .ref 51] (rn_SH, m61) r τ := by
                  intro o59
                  refine rx_p (L2 := [some (.ref 51), some (.int a1), some (.int a2), some (.int a3), some (.int a4), some (.int a5), some (.int a6), some (.int a7), some (.ref q8), some (.int a9), o59, some (.int r8), some (.int x18), some (.int x20), some (.int x25)]) (S2 := [.int x20, .int x60, .int (a1 - 1), .ref 51]) (pc2 := 254) op78_252 rfl rfl ?_
                  refine rx_p (L2 := [some (.ref 51), some (.int a1), some (.int a2), some (.int a3), some (.int a4), some (.int a5), some (.int a6), some (.int a7), some (.ref q8), some (.int a9), o59, some (.int r8), some (.int x18), some (.int x20), some (.int x25)]) (S2 := [.int x18, .int x20, .int x60, .int (a1 - 1), .ref 51]) (pc2 := 256) op78_254 rfl rfl ?_
                  refine rx_p (L2 := [some (.ref 51), some (.int a1), some (.int a2), some (.int a3), some (.int a4), some (.int a5), some (.int a6), some (.int a7), some (.ref q8), some (.int a9), o59, some (.int r8), some (.int x18), some (.int x20), some (.int x25)]) (S2 := [.int a6, .int x18, .int x20, .int x60, .int (a1 - 1), .ref 51]) (pc2 := 258) op78_256 rfl rfl ?_
                  refine rx_p (L2 := [some (.ref 51), some (.int a1), some (.int a2), some (.int a3), some (.int a4), some (.int a5), some (.int a6), some (.int a7), some (.ref q8), some (.int a9), o59, some (.int r8), some (.int x18), some (.int x20), some (.int x25)]) (S2 := [.int r8, .int a6, .int x18, .int x20, .int x60, .int (a1 - 1), .ref 51]) (pc2 := 260) op78_258 rfl rfl ?_
                  refine rx_p (L2 := [some (.ref 51), some (.int a1), some (.int a2), some (.int a3), some (.int a4), some (.int a5), some (.int a6), some (.int a7), some (.ref q8), some (.int a9), o59, some (.int r8), some (.int x18), some (.int x20), some (.int x25)]) (S2 := [.int (a6 ||| r8), .int x18, .int x20, .int x60, .int (a1 - 1), .ref 51]) (pc2 := 261) op78_260 rfl rfl ?_
                  refine rx_p (L2 := [some (.ref 51), some (.int a1), some (.int a2), some (.int a3), some (.int a4), some (.int a5), some (.int a6), some (.int a7), some (.ref q8), some (.int a9), o59, some (.int r8), some (.int x18), some (.int x20), some (.int x25)]) (S2 := [.int x25, .int (a6 ||| r8), .int x18, .int x20, .int x60, .int (a1 - 1), .ref 51]) (pc2 := 263) op78_261 rfl rfl ?_
                  obtain ⟨m62, f63, gc125⟩ := rq_bind gc125
                  try dsimp only at gc125
                  refine ry_iv (p := 51) (vs := [.int (a1 - 1), .int x60, .int x20, .int x18, .int (a6 ||| r8), .int x25]) (T := []) (pc2 := 266) op78_263 ms_77 (by decide) rfl rfl (Nat.le_of_ble_eq_true rfl) (Nat.le_of_ble_eq_true rfl) sp_51 (hrec  f63) rfl ?_
                  show rn_R _ _ _ _ _ [] _ _ _
                  refine rx_p (L2 := [some (.ref 51), some (.int a1), some (.int a2), some (.int a3), some (.int a4), some (.int a5), some (.int a6), some (.int a7), some (.ref q8), some (.int a9), o59, some (.int r8), some (.int x18), some (.int x20), some (.int x25)]) (S2 := [.ref 51]) (pc2 := 267) op78_266 rfl rfl ?_
                  refine rx_p (L2 := [some (.ref 51), some (.int a1), some (.int a2), some (.int a3), some (.int a4), some (.int a5), some (.int a6), some (.int a7), some (.ref q8), some (.int a9), o59, some (.int r8), some (.int x18), some (.int x20), some (.int x25)]) (S2 := [.ref 51, .ref 51]) (pc2 := 268) op78_267 rfl rfl ?_
                  refine rx_gf (v := .int (m62.1 51 9)) (pc2 := 271) op78_268 sp_51 rfl rfl rfl ?_
                  refine rx_p (L2 := [some (.ref 51), some (.int a1), some (.int a2), some (.int a3), some (.int a4), some (.int a5), some (.int a6), some (.int a7), some (.ref q8), some (.int a9), o59, some (.int r8), some (.int x18), some (.int x20), some (.int x25)]) (S2 := [.ref q8, .int (m62.1 51 9), .ref 51]) (pc2 := 273) op78_271 rfl rfl ?_
                  refine rx_gf (v := .int (m62.1 q8 1)) (pc2 := 276) op78_273 (hq8.1) rfl rfl rfl ?_
                  refine rx_ic (v := (-1)) (pc2 := 277) op78_276 (by decide) rfl ?_
                  refine rx_p (L2 := [some (.ref 51), some (.int a1), some (.int a2), some (.int a3), some (.int a4), some (.int a5), some (.int a6), some (.int a7), some (.ref q8), some (.int a9), o59, some (.int r8), some (.int x18), some (.int x20), some (.int x25)]) (S2 := [.int ((m62.1 q8 1) ^^^ (-1)), .int (m62.1 51 9), .ref 51]) (pc2 := 278) op78_277 rfl rfl ?_
                  refine rx_p (L2 := [some (.ref 51), some (.int a1), some (.int a2), some (.int a3), some (.int a4), some (.int a5), some (.int a6), some (.int a7), some (.ref q8), some (.int a9), o59, some (.int r8), some (.int x18), some (.int x20), some (.int x25)]) (S2 := [.int ((m62.1 51 9) &&& ((m62.1 q8 1) ^^^ (-1))), .ref 51]) (pc2 := 279) op78_278 rfl rfl ?_
                  obtain ⟨m64, em64, gc125⟩ := rq_bv gc125
                  refine rx_pf (m2 := m64) (pc2 := 282) op78_279 sp_51 rfl em64 rfl ?_
                  cases gc125
                  exact c125 _ _ _ _ _
                refine ry_if_ne (tgt := 243) (pc2 := 238) op78_235 (by decide) (by decide) rfl (fun b55 => ?_) (fun b55 => ?_)
                · have gc65 := (if_pos b55).symm.trans gc65
                  refine rx_p (L2 := [some (.ref 51), some (.int a1), some (.int a2), some (.int a3), some (.int a4), some (.int a5), some (.int a6), some (.int a7), some (.ref q8), some (.int a9), some (.int x5), some (.int r8), some (.int x18), some (.int x20), some (.int x25)]) (S2 := [.int x5, .int (a1 - 1), .ref 51]) (pc2 := 240) op78_238 rfl rfl ?_
                  refine ry_go (tgt := 252) op78_240 (by decide) (by decide) ?_
                  cases gc65
                  exact c65 _
                · have gc65 := (if_neg b55).symm.trans gc65
                  refine rx_p (L2 := [some (.ref 51), some (.int a1), some (.int a2), some (.int a3), some (.int a4), some (.int a5), some (.int a6), some (.int a7), some (.ref q8), some (.int a9), some (.int x5), some (.int r8), some (.int x18), some (.int x20), some (.int x25)]) (S2 := [.ref 51, .int (a1 - 1), .ref 51]) (pc2 := 244) op78_243 rfl rfl ?_
                  refine rx_gf (v := .ref 52) (pc2 := 247) op78_244 sp_51 rfl rfl rfl ?_
                  refine rx_p (L2 := [some (.ref 51), some (.int a1), some (.int a2), some (.int a3), some (.int a4), some (.int a5), some (.int a6), some (.int a7), some (.ref q8), some (.int a9), some (.int x5), some (.int r8), some (.int x18), some (.int x20), some (.int x25)]) (S2 := [.int x5, .ref 52, .int (a1 - 1), .ref 51]) (pc2 := 249) op78_247 rfl rfl ?_
                  obtain ⟨⟨r57, m56⟩, f58, gc65⟩ := rq_bind gc65
                  try dsimp only at gc65
                  refine ry_iv (p := 52) (vs := [.int x5]) (T := [.int (a1 - 1), .ref 51]) (pc2 := 252) op78_249 ms_88 (by decide) rfl rfl (Nat.le_of_ble_eq_true rfl) (Nat.le_of_ble_eq_true rfl) sp_52 (ga_previous_ok xs (by omega) sa_52 f58) rfl ?_
                  show rn_R _ _ _ _ _ [.int r57, .int (a1 - 1), .ref 51] _ _ _
                  cases gc65
                  exact c65 _
        · have gc125 := (if_neg b14).symm.trans gc125
          refine rx_p (L2 := [some (.ref 51), some (.int a1), some (.int a2), some (.int a3), some (.int a4), some (.int a5), some (.int a6), some (.int a7), some (.ref q8), some (.int a9), some (.int x5), some (.int r8), o12, o13, o14]) (S2 := [.ref 51]) (pc2 := 70) op78_69 rfl rfl ?_
          refine rx_gf (v := .int (m10.1 51 10)) (pc2 := 73) op78_70 sp_51 rfl rfl rfl ?_
          refine rx_ic (v := 2) (pc2 := 74) op78_73 (by decide) rfl ?_
          refine ry_ic_eq (tgt := 80) (pc2 := 77) op78_74 (by decide) (by decide) rfl (fun b66 => ?_) (fun b66 => ?_)
          · have gc125 := (if_pos b66).symm.trans gc125
            refine rx_p (L2 := [some (.ref 51), some (.int a1), some (.int a2), some (.int a3), some (.int a4), some (.int a5), some (.int a6), some (.int a7), some (.ref q8), some (.int a9), some (.int x5), some (.int r8), o12, o13, o14]) (S2 := [.int a5]) (pc2 := 82) op78_80 rfl rfl ?_
            refine rx_p (L2 := [some (.ref 51), some (.int a1), some (.int a2), some (.int a3), some (.int a4), some (.int a5), some (.int a6), some (.int a7), some (.ref q8), some (.int a9), some (.int x5), some (.int r8), o12, o13, o14]) (S2 := [.int r8, .int a5]) (pc2 := 84) op78_82 rfl rfl ?_
            obtain ⟨⟨r68, m67⟩, f69, gc125⟩ := rq_bind gc125
            try dsimp only at gc125
            refine ry_is (vs := [.int r8]) (T := [.int a5]) (pc2 := 87) op78_84 (by decide) ms_81 (by decide) rfl rfl (Nat.le_of_ble_eq_true rfl) (Nat.le_of_ble_eq_true rfl) (ja_bitCount_ok xs (by omega)  f69) rfl ?_
            show rn_R _ _ _ _ _ [.int r68, .int a5] _ _ _
            refine rx_p (L2 := [some (.ref 51), some (.int a1), some (.int a2), some (.int a3), some (.int a4), some (.int a5), some (.int a6), some (.int a7), some (.ref q8), some (.int a9), some (.int x5), some (.int r8), o12, o13, o14]) (S2 := [.int (a5 + r68)]) (pc2 := 88) op78_87 rfl rfl ?_
            obtain ⟨x70, ex70, gc125⟩ := rq_bv gc125
            refine rx_s (v := x70) (L2 := [some (.ref 51), some (.int a1), some (.int a2), some (.int a3), some (.int a4), some (.int a5), some (.int a6), some (.int a7), some (.ref q8), some (.int a9), some (.int x5), some (.int r8), some (.int x70), o13, o14]) (pc2 := 90) op78_88 ex70 rfl rfl ?_
            refine rx_p (L2 := [some (.ref 51), some (.int a1), some (.int a2), some (.int a3), some (.int a4), some (.int a5), some (.int a6), some (.int a7), some (.ref q8), some (.int a9), some (.int x5), some (.int r8), some (.int x70), o13, o14]) (S2 := [.int a4]) (pc2 := 92) op78_90 rfl rfl ?_
            refine rx_p (L2 := [some (.ref 51), some (.int a1), some (.int a2), some (.int a3), some (.int a4), some (.int a5), some (.int a6), some (.int a7), some (.ref q8), some (.int a9), some (.int x5), some (.int r8), some (.int x70), o13, o14]) (S2 := [.ref q8, .int a4]) (pc2 := 94) op78_92 rfl rfl ?_
            refine rx_gf (v := .ref (q8 + 3)) (pc2 := 97) op78_94 (hq8.1) rfl rfl rfl ?_
            refine rx_p (L2 := [some (.ref 51), some (.int a1), some (.int a2), some (.int a3), some (.int a4), some (.int a5), some (.int a6), some (.int a7), some (.ref q8), some (.int a9), some (.int x5), some (.int r8), some (.int x70), o13, o14]) (S2 := [.int a9, .ref (q8 + 3), .int a4]) (pc2 := 99) op78_97 rfl rfl ?_
            obtain ⟨k71, gc125⟩ := rq_chk gc125
            refine rx_ia (pc2 := 100) op78_99 (rn_shlt (hq8.2.2.2.1)) (hq8.2.2.2.1) k71 rfl rfl ?_
            refine rx_p (L2 := [some (.ref 51), some (.int a1), some (.int a2), some (.int a3), some (.int a4), some (.int a5), some (.int a6), some (.int a7), some (.ref q8), some (.int a9), some (.int x5), some (.int r8), some (.int x70), o13, o14]) (S2 := [.int (a4 ||| (m67.1 (q8 + 3) a9.toNatClampNeg))]) (pc2 := 101) op78_100 rfl rfl ?_
            obtain ⟨x72, ex72, gc125⟩ := rq_bv gc125
            refine rx_s (v := x72) (L2 := [some (.ref 51), some (.int a1), some (.int a2), some (.int a3), some (.int a4), some (.int a5), some (.int a6), some (.int a7), some (.ref q8), some (.int a9), some (.int x5), some (.int r8), some (.int x70), some (.int x72), o14]) (pc2 := 103) op78_101 ex72 rfl rfl ?_
            refine rx_p (L2 := [some (.ref 51), some (.int a1), some (.int a2), some (.int a3), some (.int a4), some (.int a5), some (.int a6), some (.int a7), some (.ref q8), some (.int a9), some (.int x5), some (.int r8), some (.int x70), some (.int x72), o14]) (S2 := [.int a7]) (pc2 := 105) op78_103 rfl rfl ?_
            refine rx_p (L2 := [some (.ref 51), some (.int a1), some (.int a2), some (.int a3), some (.int a4), some (.int a5), some (.int a6), some (.int a7), some (.ref q8), some (.int a9), some (.int x5), some (.int r8), some (.int x70), some (.int x72), o14]) (S2 := [.ref q8, .int a7]) (pc2 := 107) op78_105 rfl rfl ?_
            refine rx_gf (v := .ref (q8 + 4)) (pc2 := 110) op78_107 (hq8.1) rfl rfl rfl ?_
            refine rx_p (L2 := [some (.ref 51), some (.int a1), some (.int a2), some (.int a3), some (.int a4), some (.int a5), some (.int a6), some (.int a7), some (.ref q8), some (.int a9), some (.int x5), some (.int r8), some (.int x70), some (.int x72), o14]) (S2 := [.int a9, .ref (q8 + 4), .int a7]) (pc2 := 112) op78_110 rfl rfl ?_
            obtain ⟨k73, gc125⟩ := rq_chk gc125
            refine rx_ia (pc2 := 113) op78_112 (rn_shlt (hq8.2.2.2.2.1)) (hq8.2.2.2.2.1) k73 rfl rfl ?_
            refine rx_p (L2 := [some (.ref 51), some (.int a1), some (.int a2), some (.int a3), some (.int a4), some (.int a5), some (.int a6), some (.int a7), some (.ref q8), some (.int a9), some (.int x5), some (.int r8), some (.int x70), some (.int x72), o14]) (S2 := [.int (a7 ||| (m67.1 (q8 + 4) a9.toNatClampNeg))]) (pc2 := 114) op78_113 rfl rfl ?_
            refine rx_p (L2 := [some (.ref 51), some (.int a1), some (.int a2), some (.int a3), some (.int a4), some (.int a5), some (.int a6), some (.int a7), some (.ref q8), some (.int a9), some (.int x5), some (.int r8), some (.int x70), some (.int x72), o14]) (S2 := [.ref 51, .int (a7 ||| (m67.1 (q8 + 4) a9.toNatClampNeg))]) (pc2 := 115) op78_114 rfl rfl ?_
            refine rx_gf (v := .ref 57) (pc2 := 118) op78_115 sp_51 rfl rfl rfl ?_
            refine rx_p (L2 := [some (.ref 51), some (.int a1), some (.int a2), some (.int a3), some (.int a4), some (.int a5), some (.int a6), some (.int a7), some (.ref q8), some (.int a9), some (.int x5), some (.int r8), some (.int x70), some (.int x72), o14]) (S2 := [.int a1, .ref 57, .int (a7 ||| (m67.1 (q8 + 4) a9.toNatClampNeg))]) (pc2 := 119) op78_118 rfl rfl ?_
            refine rx_p (L2 := [some (.ref 51), some (.int a1), some (.int a2), some (.int a3), some (.int a4), some (.int a5), some (.int a6), some (.int a7), some (.ref q8), some (.int a9), some (.int x5), some (.int r8), some (.int x70), some (.int x72), o14]) (S2 := [.int x5, .int a1, .ref 57, .int (a7 ||| (m67.1 (q8 + 4) a9.toNatClampNeg))]) (pc2 := 121) op78_119 rfl rfl ?_
            refine rx_p (L2 := [some (.ref 51), some (.int a1), some (.int a2), some (.int a3), some (.int a4), some (.int a5), some (.int a6), some (.int a7), some (.ref q8), some (.int a9), some (.int x5), some (.int r8), some (.int x70), some (.int x72), o14]) (S2 := [.ref q8, .int x5, .int a1, .ref 57, .int (a7 ||| (m67.1 (q8 + 4) a9.toNatClampNeg))]) (pc2 := 123) op78_121 rfl rfl ?_
            refine rx_gf (v := .int (m67.1 q8 1)) (pc2 := 126) op78_123 (hq8.1) rfl rfl rfl ?_
            refine rx_p (L2 := [some (.ref 51), some (.int a1), some (.int a2), some (.int a3), some (.int a4), some (.int a5), some (.int a6), some (.int a7), some (.ref q8), some (.int a9), some (.int x5), some (.int r8), some (.int x70), some (.int x72), o14]) (S2 := [.ref 51, .int (m67.1 q8 1), .int x5, .int a1, .ref 57, .int (a7 ||| (m67.1 (q8 + 4) a9.toNatClampNeg))]) (pc2 := 127) op78_126 rfl rfl ?_
            refine rx_gf (v := .int (m67.1 51 9)) (pc2 := 130) op78_127 sp_51 rfl rfl rfl ?_
            refine rx_p (L2 := [some (.ref 51), some (.int a1), some (.int a2), some (.int a3), some (.int a4), some (.int a5), some (.int a6), some (.int a7), some (.ref q8), some (.int a9), some (.int x5), some (.int r8), some (.int x70), some (.int x72), o14]) (S2 := [.int x72, .int (m67.1 51 9), .int (m67.1 q8 1), .int x5, .int a1, .ref 57, .int (a7 ||| (m67.1 (q8 + 4) a9.toNatClampNeg))]) (pc2 := 132) op78_130 rfl rfl ?_
            obtain ⟨⟨r75, m74⟩, f76, gc125⟩ := rq_bind gc125
            try dsimp only at gc125
            refine ry_iv (p := 57) (vs := [.int a1, .int x5, .int (m67.1 q8 1), .int (m67.1 51 9), .int x72]) (T := [.int (a7 ||| (m67.1 (q8 + 4) a9.toNatClampNeg))]) (pc2 := 135) op78_132 ms_82 (by decide) rfl rfl (Nat.le_of_ble_eq_true rfl) (Nat.le_of_ble_eq_true rfl) sp_57 (cl_againstTrick_ok xs (by omega) sa_57 f76) rfl ?_
            show rn_R _ _ _ _ _ [.int r75, .int (a7 ||| (m67.1 (q8 + 4) a9.toNatClampNeg))] _ _ _
            refine rx_p (L2 := [some (.ref 51), some (.int a1), some (.int a2), some (.int a3), some (.int a4), some (.int a5), some (.int a6), some (.int a7), some (.ref q8), some (.int a9), some (.int x5), some (.int r8), some (.int x70), some (.int x72), o14]) (S2 := [.int ((a7 ||| (m67.1 (q8 + 4) a9.toNatClampNeg)) ||| r75)]) (pc2 := 136) op78_135 rfl rfl ?_
            obtain ⟨x77, ex77, gc125⟩ := rq_bv gc125
            refine rx_s (v := x77) (L2 := [some (.ref 51), some (.int a1), some (.int a2), some (.int a3), some (.int a4), some (.int a5), some (.int a6), some (.int a7), some (.ref q8), some (.int a9), some (.int x5), some (.int r8), some (.int x70), some (.int x72), some (.int x77)]) (pc2 := 138) op78_136 ex77 rfl rfl ?_
            refine rx_p (L2 := [some (.ref 51), some (.int a1), some (.int a2), some (.int a3), some (.int a4), some (.int a5), some (.int a6), some (.int a7), some (.ref q8), some (.int a9), some (.int x5), some (.int r8), some (.int x70), some (.int x72), some (.int x77)]) (S2 := [.ref 51]) (pc2 := 139) op78_138 rfl rfl ?_
            refine rx_p (L2 := [some (.ref 51), some (.int a1), some (.int a2), some (.int a3), some (.int a4), some (.int a5), some (.int a6), some (.int a7), some (.ref q8), some (.int a9), some (.int x5), some (.int r8), some (.int x70), some (.int x72), some (.int x77)]) (S2 := [.int x70, .ref 51]) (pc2 := 141) op78_139 rfl rfl ?_
            refine rx_p (L2 := [some (.ref 51), some (.int a1), some (.int a2), some (.int a3), some (.int a4), some (.int a5), some (.int a6), some (.int a7), some (.ref q8), some (.int a9), some (.int x5), some (.int r8), some (.int x70), some (.int x72), some (.int x77)]) (S2 := [.int a6, .int x70, .ref 51]) (pc2 := 143) op78_141 rfl rfl ?_
            refine rx_p (L2 := [some (.ref 51), some (.int a1), some (.int a2), some (.int a3), some (.int a4), some (.int a5), some (.int a6), some (.int a7), some (.ref q8), some (.int a9), some (.int x5), some (.int r8), some (.int x70), some (.int x72), some (.int x77)]) (S2 := [.int r8, .int a6, .int x70, .ref 51]) (pc2 := 145) op78_143 rfl rfl ?_
            refine rx_p (L2 := [some (.ref 51), some (.int a1), some (.int a2), some (.int a3), some (.int a4), some (.int a5), some (.int a6), some (.int a7), some (.ref q8), some (.int a9), some (.int x5), some (.int r8), some (.int x70), some (.int x72), some (.int x77)]) (S2 := [.int (a6 ||| r8), .int x70, .ref 51]) (pc2 := 146) op78_145 rfl rfl ?_
            refine rx_p (L2 := [some (.ref 51), some (.int a1), some (.int a2), some (.int a3), some (.int a4), some (.int a5), some (.int a6), some (.int a7), some (.ref q8), some (.int a9), some (.int x5), some (.int r8), some (.int x70), some (.int x72), some (.int x77)]) (S2 := [.int x77, .int (a6 ||| r8), .int x70, .ref 51]) (pc2 := 148) op78_146 rfl rfl ?_
            obtain ⟨⟨r79, m78⟩, f80, gc125⟩ := rq_bind gc125
            try dsimp only at gc125
            refine ry_iv (p := 51) (vs := [.int x70, .int (a6 ||| r8), .int x77]) (T := []) (pc2 := 151) op78_148 ms_83 (by decide) rfl rfl (Nat.le_of_ble_eq_true rfl) (Nat.le_of_ble_eq_true rfl) sp_51 (se_promises_ok xs (by omega)  f80) rfl ?_
            show rn_R _ _ _ _ _ [.int r79] _ _ _
            refine ry_if_ne (tgt := 157) (pc2 := 154) op78_151 (by decide) (by decide) rfl (fun b81 => ?_) (fun b81 => ?_)
            · have gc125 := (if_pos b81).symm.trans gc125
              refine ry_go (tgt := 282) op78_154 (by decide) (by decide) ?_
              cases gc125
              exact c125 _ _ _ _ _
            · have gc125 := (if_neg b81).symm.trans gc125
              refine rx_p (L2 := [some (.ref 51), some (.int a1), some (.int a2), some (.int a3), some (.int a4), some (.int a5), some (.int a6), some (.int a7), some (.ref q8), some (.int a9), some (.int x5), some (.int r8), some (.int x70), some (.int x72), some (.int x77)]) (S2 := [.ref 51]) (pc2 := 158) op78_157 rfl rfl ?_
              refine rx_gf (v := .ref 67) (pc2 := 161) op78_158 sp_51 rfl rfl rfl ?_
              refine rx_p (L2 := [some (.ref 51), some (.int a1), some (.int a2), some (.int a3), some (.int a4), some (.int a5), some (.int a6), some (.int a7), some (.ref q8), some (.int a9), some (.int x5), some (.int r8), some (.int x70), some (.int x72), some (.int x77)]) (S2 := [.int a1, .ref 67]) (pc2 := 162) op78_161 rfl rfl ?_
              refine rx_p (L2 := [some (.ref 51), some (.int a1), some (.int a2), some (.int a3), some (.int a4), some (.int a5), some (.int a6), some (.int a7), some (.ref q8), some (.int a9), some (.int x5), some (.int r8), some (.int x70), some (.int x72), some (.int x77)]) (S2 := [.int a2, .int a1, .ref 67]) (pc2 := 163) op78_162 rfl rfl ?_
              refine rx_bp (v := 24) (pc2 := 165) op78_163 (by decide) rfl ?_
              refine rx_p (L2 := [some (.ref 51), some (.int a1), some (.int a2), some (.int a3), some (.int a4), some (.int a5), some (.int a6), some (.int a7), some (.ref q8), some (.int a9), some (.int x5), some (.int r8), some (.int x70), some (.int x72), some (.int x77)]) (S2 := [.int (a2 * 24), .int a1, .ref 67]) (pc2 := 166) op78_165 rfl rfl ?_
              refine rx_p (L2 := [some (.ref 51), some (.int a1), some (.int a2), some (.int a3), some (.int a4), some (.int a5), some (.int a6), some (.int a7), some (.ref q8), some (.int a9), some (.int x5), some (.int r8), some (.int x70), some (.int x72), some (.int x77)]) (S2 := [.int a9, .int (a2 * 24), .int a1, .ref 67]) (pc2 := 168) op78_166 rfl rfl ?_
              refine rx_p (L2 := [some (.ref 51), some (.int a1), some (.int a2), some (.int a3), some (.int a4), some (.int a5), some (.int a6), some (.int a7), some (.ref q8), some (.int a9), some (.int x5), some (.int r8), some (.int x70), some (.int x72), some (.int x77)]) (S2 := [.int ((a2 * 24) + a9), .int a1, .ref 67]) (pc2 := 169) op78_168 rfl rfl ?_
              obtain ⟨k83, gc125⟩ := rq_chk gc125
              obtain ⟨m82, em82, gc125⟩ := rq_bv gc125
              refine rx_is (m2 := m82) (pc2 := 170) op78_169 sp_67 k83 rfl em82 rfl ?_
              refine rx_p (L2 := [some (.ref 51), some (.int a1), some (.int a2), some (.int a3), some (.int a4), some (.int a5), some (.int a6), some (.int a7), some (.ref q8), some (.int a9), some (.int x5), some (.int r8), some (.int x70), some (.int x72), some (.int x77)]) (S2 := [.int a1]) (pc2 := 171) op78_170 rfl rfl ?_
              refine ry_if_ne (tgt := 190) (pc2 := 174) op78_171 (by decide) (by decide) rfl (fun b84 => ?_) (fun b84 => ?_)
              · have gc125 := (if_pos b84).symm.trans gc125
                refine rx_p (L2 := [some (.ref 51), some (.int a1), some (.int a2), some (.int a3), some (.int a4), some (.int a5), some (.int a6), some (.int a7), some (.ref q8), some (.int a9), some (.int x5), some (.int r8), some (.int x70), some (.int x72), some (.int x77)]) (S2 := [.ref 51]) (pc2 := 175) op78_174 rfl rfl ?_
                refine rx_gf (v := .int (m82.1 51 10)) (pc2 := 178) op78_175 sp_51 rfl rfl rfl ?_
                refine ry_if_ne (tgt := 190) (pc2 := 181) op78_178 (by decide) (by decide) rfl (fun b85 => ?_) (fun b85 => ?_)
                · have gc125 := (if_pos b85).symm.trans gc125
                  refine rx_p (L2 := [some (.ref 51), some (.int a1), some (.int a2), some (.int a3), some (.int a4), some (.int a5), some (.int a6), some (.int a7), some (.ref q8), some (.int a9), some (.int x5), some (.int r8), some (.int x70), some (.int x72), some (.int x77)]) (S2 := [.ref 51]) (pc2 := 182) op78_181 rfl rfl ?_
                  refine rx_p (L2 := [some (.ref 51), some (.int a1), some (.int a2), some (.int a3), some (.int a4), some (.int a5), some (.int a6), some (.int a7), some (.ref q8), some (.int a9), some (.int x5), some (.int r8), some (.int x70), some (.int x72), some (.int x77)]) (S2 := [.int x5, .ref 51]) (pc2 := 184) op78_182 rfl rfl ?_
                  obtain ⟨m86, f87, gc125⟩ := rq_bind gc125
                  try dsimp only at gc125
                  refine ry_iv (p := 51) (vs := [.int x5]) (T := []) (pc2 := 187) op78_184 ms_85 (by decide) rfl rfl (Nat.le_of_ble_eq_true rfl) (Nat.le_of_ble_eq_true rfl) sp_51 (se_notePlay_ok xs (by omega)  f87) rfl ?_
                  show rn_R _ _ _ _ _ [] _ _ _
                  refine ry_go (tgt := 282) op78_187 (by decide) (by decide) ?_
                  cases gc125
                  exact c125 _ _ _ _ _
                · have gc125 := (if_neg b85).symm.trans gc125
                  refine rx_p (L2 := [some (.ref 51), some (.int a1), some (.int a2), some (.int a3), some (.int a4), some (.int a5), some (.int a6), some (.int a7), some (.ref q8), some (.int a9), some (.int x5), some (.int r8), some (.int x70), some (.int x72), some (.int x77)]) (S2 := [.int a1]) (pc2 := 191) op78_190 rfl rfl ?_
                  refine ry_if_ne (tgt := 210) (pc2 := 194) op78_191 (by decide) (by decide) rfl (fun b88 => ?_) (fun b88 => ?_)
                  · have gc125 := (if_pos b88).symm.trans gc125
                    refine rx_p (L2 := [some (.ref 51), some (.int a1), some (.int a2), some (.int a3), some (.int a4), some (.int a5), some (.int a6), some (.int a7), some (.ref q8), some (.int a9), some (.int x5), some (.int r8), some (.int x70), some (.int x72), some (.int x77)]) (S2 := [.ref 51]) (pc2 := 195) op78_194 rfl rfl ?_
                    refine rx_p (L2 := [some (.ref 51), some (.int a1), some (.int a2), some (.int a3), some (.int a4), some (.int a5), some (.int a6), some (.int a7), some (.ref q8), some (.int a9), some (.int x5), some (.int r8), some (.int x70), some (.int x72), some (.int x77)]) (S2 := [.int x70, .ref 51]) (pc2 := 197) op78_195 rfl rfl ?_
                    refine rx_p (L2 := [some (.ref 51), some (.int a1), some (.int a2), some (.int a3), some (.int a4), some (.int a5), some (.int a6), some (.int a7), some (.ref q8), some (.int a9), some (.int x5), some (.int r8), some (.int x70), some (.int x72), some (.int x77)]) (S2 := [.int a6, .int x70, .ref 51]) (pc2 := 199) op78_197 rfl rfl ?_
                    refine rx_p (L2 := [some (.ref 51), some (.int a1), some (.int a2), some (.int a3), some (.int a4), some (.int a5), some (.int a6), some (.int a7), some (.ref q8), some (.int a9), some (.int x5), some (.int r8), some (.int x70), some (.int x72), some (.int x77)]) (S2 := [.int r8, .int a6, .int x70, .ref 51]) (pc2 := 201) op78_199 rfl rfl ?_
                    refine rx_p (L2 := [some (.ref 51), some (.int a1), some (.int a2), some (.int a3), some (.int a4), some (.int a5), some (.int a6), some (.int a7), some (.ref q8), some (.int a9), some (.int x5), some (.int r8), some (.int x70), some (.int x72), some (.int x77)]) (S2 := [.int (a6 ||| r8), .int x70, .ref 51]) (pc2 := 202) op78_201 rfl rfl ?_
                    refine rx_p (L2 := [some (.ref 51), some (.int a1), some (.int a2), some (.int a3), some (.int a4), some (.int a5), some (.int a6), some (.int a7), some (.ref q8), some (.int a9), some (.int x5), some (.int r8), some (.int x70), some (.int x72), some (.int x77)]) (S2 := [.int x77, .int (a6 ||| r8), .int x70, .ref 51]) (pc2 := 204) op78_202 rfl rfl ?_
                    obtain ⟨m89, f90, gc125⟩ := rq_bind gc125
                    try dsimp only at gc125
                    refine ry_iv (p := 51) (vs := [.int x70, .int (a6 ||| r8), .int x77]) (T := []) (pc2 := 207) op78_204 ms_87 (by decide) rfl rfl (Nat.le_of_ble_eq_true rfl) (Nat.le_of_ble_eq_true rfl) sp_51 (se_noteLess_ok xs (by omega)  f90) rfl ?_
                    show rn_R _ _ _ _ _ [] _ _ _
                    refine ry_go (tgt := 282) op78_207 (by decide) (by decide) ?_
                    cases gc125
                    exact c125 _ _ _ _ _
                  · have gc125 := (if_neg b88).symm.trans gc125
                    refine rx_p (L2 := [some (.ref 51), some (.int a1), some (.int a2), some (.int a3), some (.int a4), some (.int a5), some (.int a6), some (.int a7), some (.ref q8), some (.int a9), some (.int x5), some (.int r8), some (.int x70), some (.int x72), some (.int x77)]) (S2 := [.ref 51]) (pc2 := 211) op78_210 rfl rfl ?_
                    refine rx_p (L2 := [some (.ref 51), some (.int a1), some (.int a2), some (.int a3), some (.int a4), some (.int a5), some (.int a6), some (.int a7), some (.ref q8), some (.int a9), some (.int x5), some (.int r8), some (.int x70), some (.int x72), some (.int x77)]) (S2 := [.ref 51, .ref 51]) (pc2 := 212) op78_211 rfl rfl ?_
                    refine rx_gf (v := .int (m82.1 51 9)) (pc2 := 215) op78_212 sp_51 rfl rfl rfl ?_
                    refine rx_p (L2 := [some (.ref 51), some (.int a1), some (.int a2), some (.int a3), some (.int a4), some (.int a5), some (.int a6), some (.int a7), some (.ref q8), some (.int a9), some (.int x5), some (.int r8), some (.int x70), some (.int x72), some (.int x77)]) (S2 := [.ref q8, .int (m82.1 51 9), .ref 51]) (pc2 := 217) op78_215 rfl rfl ?_
                    refine rx_gf (v := .int (m82.1 q8 1)) (pc2 := 220) op78_217 (hq8.1) rfl rfl rfl ?_
                    refine rx_p (L2 := [some (.ref 51), some (.int a1), some (.int a2), some (.int a3), some (.int a4), some (.int a5), some (.int a6), some (.int a7), some (.ref q8), some (.int a9), some (.int x5), some (.int r8), some (.int x70), some (.int x72), some (.int x77)]) (S2 := [.int ((m82.1 51 9) ||| (m82.1 q8 1)), .ref 51]) (pc2 := 221) op78_220 rfl rfl ?_
                    obtain ⟨m91, em91, gc125⟩ := rq_bv gc125
                    refine rx_pf (m2 := m91) (pc2 := 224) op78_221 sp_51 rfl em91 rfl ?_
                    refine rx_p (L2 := [some (.ref 51), some (.int a1), some (.int a2), some (.int a3), some (.int a4), some (.int a5), some (.int a6), some (.int a7), some (.ref q8), some (.int a9), some (.int x5), some (.int r8), some (.int x70), some (.int x72), some (.int x77)]) (S2 := [.ref 51]) (pc2 := 225) op78_224 rfl rfl ?_
                    refine rx_p (L2 := [some (.ref 51), some (.int a1), some (.int a2), some (.int a3), some (.int a4), some (.int a5), some (.int a6), some (.int a7), some (.ref q8), some (.int a9), some (.int x5), some (.int r8), some (.int x70), some (.int x72), some (.int x77)]) (S2 := [.int a1, .ref 51]) (pc2 := 226) op78_225 rfl rfl ?_
                    refine rx_ic (v := 1) (pc2 := 227) op78_226 (by decide) rfl ?_
                    refine rx_p (L2 := [some (.ref 51), some (.int a1), some (.int a2), some (.int a3), some (.int a4), some (.int a5), some (.int a6), some (.int a7), some (.ref q8), some (.int a9), some (.int x5), some (.int r8), some (.int x70), some (.int x72), some (.int x77)]) (S2 := [.int (a1 - 1), .ref 51]) (pc2 := 228) op78_227 rfl rfl ?_
                    refine rx_p (L2 := [some (.ref 51), some (.int a1), some (.int a2), some (.int a3), some (.int a4), some (.int a5), some (.int a6), some (.int a7), some (.ref q8), some (.int a9), some (.int x5), some (.int r8), some (.int x70), some (.int x72), some (.int x77)]) (S2 := [.ref 51, .int (a1 - 1), .ref 51]) (pc2 := 229) op78_228 rfl rfl ?_
                    refine rx_gf (v := .ref 52) (pc2 := 232) op78_229 sp_51 rfl rfl rfl ?_
                    refine rx_gf (v := .int (m91.1 52 6)) (pc2 := 235) op78_232 sp_52 rfl rfl rfl ?_
                    obtain ⟨⟨x97, m98⟩, gc102, gc125⟩ := rq_bind gc125
                    try dsimp only at gc125
                    have c102 : ∀ (o96 : Option Value), rn_R xs (d + 1) 78 252 [some (.ref 51), some (.int a1), some (.int a2), some (.int a3), some (.int a4), some (.int a5), some (.int a6), some (.int a7), some (.ref q8), some (.int a9), o96, some (.int r8), some (.int x70), some (.int x72), some (.int x77)] [.int x97, .int (a1 - 1), .ref 51] (rn_SH, m98) r τ := by
                      intro o96
                      refine rx_p (L2 := [some (.ref 51), some (.int a1), some (.int a2), some (.int a3), some (.int a4), some (.int a5), some (.int a6), some (.int a7), some (.ref q8), some (.int a9), o96, some (.int r8), some (.int x70), some (.int x72), some (.int x77)]) (S2 := [.int x72, .int x97, .int (a1 - 1), .ref 51]) (pc2 := 254) op78_252 rfl rfl ?_
                      refine rx_p (L2 := [some (.ref 51), some (.int a1), some (.int a2), some (.int a3), some (.int a4), some (.int a5), some (.int a6), some (.int a7), some (.ref q8), some (.int a9), o96, some (.int r8), some (.int x70), some (.int x72), some (.int x77)]) (S2 := [.int x70, .int x72, .int x97, .int (a1 - 1), .ref 51]) (pc2 := 256) op78_254 rfl rfl ?_
                      refine rx_p (L2 := [some (.ref 51), some (.int a1), some (.int a2), some (.int a3), some (.int a4), some (.int a5), some (.int a6), some (.int a7), some (.ref q8), some (.int a9), o96, some (.int r8), some (.int x70), some (.int x72), some (.int x77)]) (S2 := [.int a6, .int x70, .int x72, .int x97, .int (a1 - 1), .ref 51]) (pc2 := 258) op78_256 rfl rfl ?_
                      refine rx_p (L2 := [some (.ref 51), some (.int a1), some (.int a2), some (.int a3), some (.int a4), some (.int a5), some (.int a6), some (.int a7), some (.ref q8), some (.int a9), o96, some (.int r8), some (.int x70), some (.int x72), some (.int x77)]) (S2 := [.int r8, .int a6, .int x70, .int x72, .int x97, .int (a1 - 1), .ref 51]) (pc2 := 260) op78_258 rfl rfl ?_
                      refine rx_p (L2 := [some (.ref 51), some (.int a1), some (.int a2), some (.int a3), some (.int a4), some (.int a5), some (.int a6), some (.int a7), some (.ref q8), some (.int a9), o96, some (.int r8), some (.int x70), some (.int x72), some (.int x77)]) (S2 := [.int (a6 ||| r8), .int x70, .int x72, .int x97, .int (a1 - 1), .ref 51]) (pc2 := 261) op78_260 rfl rfl ?_
                      refine rx_p (L2 := [some (.ref 51), some (.int a1), some (.int a2), some (.int a3), some (.int a4), some (.int a5), some (.int a6), some (.int a7), some (.ref q8), some (.int a9), o96, some (.int r8), some (.int x70), some (.int x72), some (.int x77)]) (S2 := [.int x77, .int (a6 ||| r8), .int x70, .int x72, .int x97, .int (a1 - 1), .ref 51]) (pc2 := 263) op78_261 rfl rfl ?_
                      obtain ⟨m99, f100, gc125⟩ := rq_bind gc125
                      try dsimp only at gc125
                      refine ry_iv (p := 51) (vs := [.int (a1 - 1), .int x97, .int x72, .int x70, .int (a6 ||| r8), .int x77]) (T := []) (pc2 := 266) op78_263 ms_77 (by decide) rfl rfl (Nat.le_of_ble_eq_true rfl) (Nat.le_of_ble_eq_true rfl) sp_51 (hrec  f100) rfl ?_
                      show rn_R _ _ _ _ _ [] _ _ _
                      refine rx_p (L2 := [some (.ref 51), some (.int a1), some (.int a2), some (.int a3), some (.int a4), some (.int a5), some (.int a6), some (.int a7), some (.ref q8), some (.int a9), o96, some (.int r8), some (.int x70), some (.int x72), some (.int x77)]) (S2 := [.ref 51]) (pc2 := 267) op78_266 rfl rfl ?_
                      refine rx_p (L2 := [some (.ref 51), some (.int a1), some (.int a2), some (.int a3), some (.int a4), some (.int a5), some (.int a6), some (.int a7), some (.ref q8), some (.int a9), o96, some (.int r8), some (.int x70), some (.int x72), some (.int x77)]) (S2 := [.ref 51, .ref 51]) (pc2 := 268) op78_267 rfl rfl ?_
                      refine rx_gf (v := .int (m99.1 51 9)) (pc2 := 271) op78_268 sp_51 rfl rfl rfl ?_
                      refine rx_p (L2 := [some (.ref 51), some (.int a1), some (.int a2), some (.int a3), some (.int a4), some (.int a5), some (.int a6), some (.int a7), some (.ref q8), some (.int a9), o96, some (.int r8), some (.int x70), some (.int x72), some (.int x77)]) (S2 := [.ref q8, .int (m99.1 51 9), .ref 51]) (pc2 := 273) op78_271 rfl rfl ?_
                      refine rx_gf (v := .int (m99.1 q8 1)) (pc2 := 276) op78_273 (hq8.1) rfl rfl rfl ?_
                      refine rx_ic (v := (-1)) (pc2 := 277) op78_276 (by decide) rfl ?_
                      refine rx_p (L2 := [some (.ref 51), some (.int a1), some (.int a2), some (.int a3), some (.int a4), some (.int a5), some (.int a6), some (.int a7), some (.ref q8), some (.int a9), o96, some (.int r8), some (.int x70), some (.int x72), some (.int x77)]) (S2 := [.int ((m99.1 q8 1) ^^^ (-1)), .int (m99.1 51 9), .ref 51]) (pc2 := 278) op78_277 rfl rfl ?_
                      refine rx_p (L2 := [some (.ref 51), some (.int a1), some (.int a2), some (.int a3), some (.int a4), some (.int a5), some (.int a6), some (.int a7), some (.ref q8), some (.int a9), o96, some (.int r8), some (.int x70), some (.int x72), some (.int x77)]) (S2 := [.int ((m99.1 51 9) &&& ((m99.1 q8 1) ^^^ (-1))), .ref 51]) (pc2 := 279) op78_278 rfl rfl ?_
                      obtain ⟨m101, em101, gc125⟩ := rq_bv gc125
                      refine rx_pf (m2 := m101) (pc2 := 282) op78_279 sp_51 rfl em101 rfl ?_
                      cases gc125
                      exact c125 _ _ _ _ _
                    refine ry_if_ne (tgt := 243) (pc2 := 238) op78_235 (by decide) (by decide) rfl (fun b92 => ?_) (fun b92 => ?_)
                    · have gc102 := (if_pos b92).symm.trans gc102
                      refine rx_p (L2 := [some (.ref 51), some (.int a1), some (.int a2), some (.int a3), some (.int a4), some (.int a5), some (.int a6), some (.int a7), some (.ref q8), some (.int a9), some (.int x5), some (.int r8), some (.int x70), some (.int x72), some (.int x77)]) (S2 := [.int x5, .int (a1 - 1), .ref 51]) (pc2 := 240) op78_238 rfl rfl ?_
                      refine ry_go (tgt := 252) op78_240 (by decide) (by decide) ?_
                      cases gc102
                      exact c102 _
                    · have gc102 := (if_neg b92).symm.trans gc102
                      refine rx_p (L2 := [some (.ref 51), some (.int a1), some (.int a2), some (.int a3), some (.int a4), some (.int a5), some (.int a6), some (.int a7), some (.ref q8), some (.int a9), some (.int x5), some (.int r8), some (.int x70), some (.int x72), some (.int x77)]) (S2 := [.ref 51, .int (a1 - 1), .ref 51]) (pc2 := 244) op78_243 rfl rfl ?_
                      refine rx_gf (v := .ref 52) (pc2 := 247) op78_244 sp_51 rfl rfl rfl ?_
                      refine rx_p (L2 := [some (.ref 51), some (.int a1), some (.int a2), some (.int a3), some (.int a4), some (.int a5), some (.int a6), some (.int a7), some (.ref q8), some (.int a9), some (.int x5), some (.int r8), some (.int x70), some (.int x72), some (.int x77)]) (S2 := [.int x5, .ref 52, .int (a1 - 1), .ref 51]) (pc2 := 249) op78_247 rfl rfl ?_
                      obtain ⟨⟨r94, m93⟩, f95, gc102⟩ := rq_bind gc102
                      try dsimp only at gc102
                      refine ry_iv (p := 52) (vs := [.int x5]) (T := [.int (a1 - 1), .ref 51]) (pc2 := 252) op78_249 ms_88 (by decide) rfl rfl (Nat.le_of_ble_eq_true rfl) (Nat.le_of_ble_eq_true rfl) sp_52 (ga_previous_ok xs (by omega) sa_52 f95) rfl ?_
                      show rn_R _ _ _ _ _ [.int r94, .int (a1 - 1), .ref 51] _ _ _
                      cases gc102
                      exact c102 _
              · have gc125 := (if_neg b84).symm.trans gc125
                refine rx_p (L2 := [some (.ref 51), some (.int a1), some (.int a2), some (.int a3), some (.int a4), some (.int a5), some (.int a6), some (.int a7), some (.ref q8), some (.int a9), some (.int x5), some (.int r8), some (.int x70), some (.int x72), some (.int x77)]) (S2 := [.int a1]) (pc2 := 191) op78_190 rfl rfl ?_
                refine ry_if_ne (tgt := 210) (pc2 := 194) op78_191 (by decide) (by decide) rfl (fun b103 => ?_) (fun b103 => ?_)
                · have gc125 := (if_pos b103).symm.trans gc125
                  refine rx_p (L2 := [some (.ref 51), some (.int a1), some (.int a2), some (.int a3), some (.int a4), some (.int a5), some (.int a6), some (.int a7), some (.ref q8), some (.int a9), some (.int x5), some (.int r8), some (.int x70), some (.int x72), some (.int x77)]) (S2 := [.ref 51]) (pc2 := 195) op78_194 rfl rfl ?_
                  refine rx_p (L2 := [some (.ref 51), some (.int a1), some (.int a2), some (.int a3), some (.int a4), some (.int a5), some (.int a6), some (.int a7), some (.ref q8), some (.int a9), some (.int x5), some (.int r8), some (.int x70), some (.int x72), some (.int x77)]) (S2 := [.int x70, .ref 51]) (pc2 := 197) op78_195 rfl rfl ?_
                  refine rx_p (L2 := [some (.ref 51), some (.int a1), some (.int a2), some (.int a3), some (.int a4), some (.int a5), some (.int a6), some (.int a7), some (.ref q8), some (.int a9), some (.int x5), some (.int r8), some (.int x70), some (.int x72), some (.int x77)]) (S2 := [.int a6, .int x70, .ref 51]) (pc2 := 199) op78_197 rfl rfl ?_
                  refine rx_p (L2 := [some (.ref 51), some (.int a1), some (.int a2), some (.int a3), some (.int a4), some (.int a5), some (.int a6), some (.int a7), some (.ref q8), some (.int a9), some (.int x5), some (.int r8), some (.int x70), some (.int x72), some (.int x77)]) (S2 := [.int r8, .int a6, .int x70, .ref 51]) (pc2 := 201) op78_199 rfl rfl ?_
                  refine rx_p (L2 := [some (.ref 51), some (.int a1), some (.int a2), some (.int a3), some (.int a4), some (.int a5), some (.int a6), some (.int a7), some (.ref q8), some (.int a9), some (.int x5), some (.int r8), some (.int x70), some (.int x72), some (.int x77)]) (S2 := [.int (a6 ||| r8), .int x70, .ref 51]) (pc2 := 202) op78_201 rfl rfl ?_
                  refine rx_p (L2 := [some (.ref 51), some (.int a1), some (.int a2), some (.int a3), some (.int a4), some (.int a5), some (.int a6), some (.int a7), some (.ref q8), some (.int a9), some (.int x5), some (.int r8), some (.int x70), some (.int x72), some (.int x77)]) (S2 := [.int x77, .int (a6 ||| r8), .int x70, .ref 51]) (pc2 := 204) op78_202 rfl rfl ?_
                  obtain ⟨m104, f105, gc125⟩ := rq_bind gc125
                  try dsimp only at gc125
                  refine ry_iv (p := 51) (vs := [.int x70, .int (a6 ||| r8), .int x77]) (T := []) (pc2 := 207) op78_204 ms_87 (by decide) rfl rfl (Nat.le_of_ble_eq_true rfl) (Nat.le_of_ble_eq_true rfl) sp_51 (se_noteLess_ok xs (by omega)  f105) rfl ?_
                  show rn_R _ _ _ _ _ [] _ _ _
                  refine ry_go (tgt := 282) op78_207 (by decide) (by decide) ?_
                  cases gc125
                  exact c125 _ _ _ _ _
                · have gc125 := (if_neg b103).symm.trans gc125
                  refine rx_p (L2 := [some (.ref 51), some (.int a1), some (.int a2), some (.int a3), some (.int a4), some (.int a5), some (.int a6), some (.int a7), some (.ref q8), some (.int a9), some (.int x5), some (.int r8), some (.int x70), some (.int x72), some (.int x77)]) (S2 := [.ref 51]) (pc2 := 211) op78_210 rfl rfl ?_
                  refine rx_p (L2 := [some (.ref 51), some (.int a1), some (.int a2), some (.int a3), some (.int a4), some (.int a5), some (.int a6), some (.int a7), some (.ref q8), some (.int a9), some (.int x5), some (.int r8), some (.int x70), some (.int x72), some (.int x77)]) (S2 := [.ref 51, .ref 51]) (pc2 := 212) op78_211 rfl rfl ?_
                  refine rx_gf (v := .int (m82.1 51 9)) (pc2 := 215) op78_212 sp_51 rfl rfl rfl ?_
                  refine rx_p (L2 := [some (.ref 51), some (.int a1), some (.int a2), some (.int a3), some (.int a4), some (.int a5), some (.int a6), some (.int a7), some (.ref q8), some (.int a9), some (.int x5), some (.int r8), some (.int x70), some (.int x72), some (.int x77)]) (S2 := [.ref q8, .int (m82.1 51 9), .ref 51]) (pc2 := 217) op78_215 rfl rfl ?_
                  refine rx_gf (v := .int (m82.1 q8 1)) (pc2 := 220) op78_217 (hq8.1) rfl rfl rfl ?_
                  refine rx_p (L2 := [some (.ref 51), some (.int a1), some (.int a2), some (.int a3), some (.int a4), some (.int a5), some (.int a6), some (.int a7), some (.ref q8), some (.int a9), some (.int x5), some (.int r8), some (.int x70), some (.int x72), some (.int x77)]) (S2 := [.int ((m82.1 51 9) ||| (m82.1 q8 1)), .ref 51]) (pc2 := 221) op78_220 rfl rfl ?_
                  obtain ⟨m106, em106, gc125⟩ := rq_bv gc125
                  refine rx_pf (m2 := m106) (pc2 := 224) op78_221 sp_51 rfl em106 rfl ?_
                  refine rx_p (L2 := [some (.ref 51), some (.int a1), some (.int a2), some (.int a3), some (.int a4), some (.int a5), some (.int a6), some (.int a7), some (.ref q8), some (.int a9), some (.int x5), some (.int r8), some (.int x70), some (.int x72), some (.int x77)]) (S2 := [.ref 51]) (pc2 := 225) op78_224 rfl rfl ?_
                  refine rx_p (L2 := [some (.ref 51), some (.int a1), some (.int a2), some (.int a3), some (.int a4), some (.int a5), some (.int a6), some (.int a7), some (.ref q8), some (.int a9), some (.int x5), some (.int r8), some (.int x70), some (.int x72), some (.int x77)]) (S2 := [.int a1, .ref 51]) (pc2 := 226) op78_225 rfl rfl ?_
                  refine rx_ic (v := 1) (pc2 := 227) op78_226 (by decide) rfl ?_
                  refine rx_p (L2 := [some (.ref 51), some (.int a1), some (.int a2), some (.int a3), some (.int a4), some (.int a5), some (.int a6), some (.int a7), some (.ref q8), some (.int a9), some (.int x5), some (.int r8), some (.int x70), some (.int x72), some (.int x77)]) (S2 := [.int (a1 - 1), .ref 51]) (pc2 := 228) op78_227 rfl rfl ?_
                  refine rx_p (L2 := [some (.ref 51), some (.int a1), some (.int a2), some (.int a3), some (.int a4), some (.int a5), some (.int a6), some (.int a7), some (.ref q8), some (.int a9), some (.int x5), some (.int r8), some (.int x70), some (.int x72), some (.int x77)]) (S2 := [.ref 51, .int (a1 - 1), .ref 51]) (pc2 := 229) op78_228 rfl rfl ?_
                  refine rx_gf (v := .ref 52) (pc2 := 232) op78_229 sp_51 rfl rfl rfl ?_
                  refine rx_gf (v := .int (m106.1 52 6)) (pc2 := 235) op78_232 sp_52 rfl rfl rfl ?_
                  obtain ⟨⟨x112, m113⟩, gc117, gc125⟩ := rq_bind gc125
                  try dsimp only at gc125
                  have c117 : ∀ (o111 : Option Value), rn_R xs (d + 1) 78 252 [some (.ref 51), some (.int a1), some (.int a2), some (.int a3), some (.int a4), some (.int a5), some (.int a6), some (.int a7), some (.ref q8), some (.int a9), o111, some (.int r8), some (.int x70), some (.int x72), some (.int x77)] [.int x112, .int (a1 - 1), .ref 51] (rn_SH, m113) r τ := by
                    intro o111
                    refine rx_p (L2 := [some (.ref 51), some (.int a1), some (.int a2), some (.int a3), some (.int a4), some (.int a5), some (.int a6), some (.int a7), some (.ref q8), some (.int a9), o111, some (.int r8), some (.int x70), some (.int x72), some (.int x77)]) (S2 := [.int x72, .int x112, .int (a1 - 1), .ref 51]) (pc2 := 254) op78_252 rfl rfl ?_
                    refine rx_p (L2 := [some (.ref 51), some (.int a1), some (.int a2), some (.int a3), some (.int a4), some (.int a5), some (.int a6), some (.int a7), some (.ref q8), some (.int a9), o111, some (.int r8), some (.int x70), some (.int x72), some (.int x77)]) (S2 := [.int x70, .int x72, .int x112, .int (a1 - 1), .ref 51]) (pc2 := 256) op78_254 rfl rfl ?_
                    refine rx_p (L2 := [some (.ref 51), some (.int a1), some (.int a2), some (.int a3), some (.int a4), some (.int a5), some (.int a6), some (.int a7), some (.ref q8), some (.int a9), o111, some (.int r8), some (.int x70), some (.int x72), some (.int x77)]) (S2 := [.int a6, .int x70, .int x72, .int x112, .int (a1 - 1), .ref 51]) (pc2 := 258) op78_256 rfl rfl ?_
                    refine rx_p (L2 := [some (.ref 51), some (.int a1), some (.int a2), some (.int a3), some (.int a4), some (.int a5), some (.int a6), some (.int a7), some (.ref q8), some (.int a9), o111, some (.int r8), some (.int x70), some (.int x72), some (.int x77)]) (S2 := [.int r8, .int a6, .int x70, .int x72, .int x112, .int (a1 - 1), .ref 51]) (pc2 := 260) op78_258 rfl rfl ?_
                    refine rx_p (L2 := [some (.ref 51), some (.int a1), some (.int a2), some (.int a3), some (.int a4), some (.int a5), some (.int a6), some (.int a7), some (.ref q8), some (.int a9), o111, some (.int r8), some (.int x70), some (.int x72), some (.int x77)]) (S2 := [.int (a6 ||| r8), .int x70, .int x72, .int x112, .int (a1 - 1), .ref 51]) (pc2 := 261) op78_260 rfl rfl ?_
                    refine rx_p (L2 := [some (.ref 51), some (.int a1), some (.int a2), some (.int a3), some (.int a4), some (.int a5), some (.int a6), some (.int a7), some (.ref q8), some (.int a9), o111, some (.int r8), some (.int x70), some (.int x72), some (.int x77)]) (S2 := [.int x77, .int (a6 ||| r8), .int x70, .int x72, .int x112, .int (a1 - 1), .ref 51]) (pc2 := 263) op78_261 rfl rfl ?_
                    obtain ⟨m114, f115, gc125⟩ := rq_bind gc125
                    try dsimp only at gc125
                    refine ry_iv (p := 51) (vs := [.int (a1 - 1), .int x112, .int x72, .int x70, .int (a6 ||| r8), .int x77]) (T := []) (pc2 := 266) op78_263 ms_77 (by decide) rfl rfl (Nat.le_of_ble_eq_true rfl) (Nat.le_of_ble_eq_true rfl) sp_51 (hrec  f115) rfl ?_
                    show rn_R _ _ _ _ _ [] _ _ _
                    refine rx_p (L2 := [some (.ref 51), some (.int a1), some (.int a2), some (.int a3), some (.int a4), some (.int a5), some (.int a6), some (.int a7), some (.ref q8), some (.int a9), o111, some (.int r8), some (.int x70), some (.int x72), some (.int x77)]) (S2 := [.ref 51]) (pc2 := 267) op78_266 rfl rfl ?_
                    refine rx_p (L2 := [some (.ref 51), some (.int a1), some (.int a2), some (.int a3), some (.int a4), some (.int a5), some (.int a6), some (.int a7), some (.ref q8), some (.int a9), o111, some (.int r8), some (.int x70), some (.int x72), some (.int x77)]) (S2 := [.ref 51, .ref 51]) (pc2 := 268) op78_267 rfl rfl ?_
                    refine rx_gf (v := .int (m114.1 51 9)) (pc2 := 271) op78_268 sp_51 rfl rfl rfl ?_
                    refine rx_p (L2 := [some (.ref 51), some (.int a1), some (.int a2), some (.int a3), some (.int a4), some (.int a5), some (.int a6), some (.int a7), some (.ref q8), some (.int a9), o111, some (.int r8), some (.int x70), some (.int x72), some (.int x77)]) (S2 := [.ref q8, .int (m114.1 51 9), .ref 51]) (pc2 := 273) op78_271 rfl rfl ?_
                    refine rx_gf (v := .int (m114.1 q8 1)) (pc2 := 276) op78_273 (hq8.1) rfl rfl rfl ?_
                    refine rx_ic (v := (-1)) (pc2 := 277) op78_276 (by decide) rfl ?_
                    refine rx_p (L2 := [some (.ref 51), some (.int a1), some (.int a2), some (.int a3), some (.int a4), some (.int a5), some (.int a6), some (.int a7), some (.ref q8), some (.int a9), o111, some (.int r8), some (.int x70), some (.int x72), some (.int x77)]) (S2 := [.int ((m114.1 q8 1) ^^^ (-1)), .int (m114.1 51 9), .ref 51]) (pc2 := 278) op78_277 rfl rfl ?_
                    refine rx_p (L2 := [some (.ref 51), some (.int a1), some (.int a2), some (.int a3), some (.int a4), some (.int a5), some (.int a6), some (.int a7), some (.ref q8), some (.int a9), o111, some (.int r8), some (.int x70), some (.int x72), some (.int x77)]) (S2 := [.int ((m114.1 51 9) &&& ((m114.1 q8 1) ^^^ (-1))), .ref 51]) (pc2 := 279) op78_278 rfl rfl ?_
                    obtain ⟨m116, em116, gc125⟩ := rq_bv gc125
                    refine rx_pf (m2 := m116) (pc2 := 282) op78_279 sp_51 rfl em116 rfl ?_
                    cases gc125
                    exact c125 _ _ _ _ _
                  refine ry_if_ne (tgt := 243) (pc2 := 238) op78_235 (by decide) (by decide) rfl (fun b107 => ?_) (fun b107 => ?_)
                  · have gc117 := (if_pos b107).symm.trans gc117
                    refine rx_p (L2 := [some (.ref 51), some (.int a1), some (.int a2), some (.int a3), some (.int a4), some (.int a5), some (.int a6), some (.int a7), some (.ref q8), some (.int a9), some (.int x5), some (.int r8), some (.int x70), some (.int x72), some (.int x77)]) (S2 := [.int x5, .int (a1 - 1), .ref 51]) (pc2 := 240) op78_238 rfl rfl ?_
                    refine ry_go (tgt := 252) op78_240 (by decide) (by decide) ?_
                    cases gc117
                    exact c117 _
                  · have gc117 := (if_neg b107).symm.trans gc117
                    refine rx_p (L2 := [some (.ref 51), some (.int a1), some (.int a2), some (.int a3), some (.int a4), some (.int a5), some (.int a6), some (.int a7), some (.ref q8), some (.int a9), some (.int x5), some (.int r8), some (.int x70), some (.int x72), some (.int x77)]) (S2 := [.ref 51, .int (a1 - 1), .ref 51]) (pc2 := 244) op78_243 rfl rfl ?_
                    refine rx_gf (v := .ref 52) (pc2 := 247) op78_244 sp_51 rfl rfl rfl ?_
                    refine rx_p (L2 := [some (.ref 51), some (.int a1), some (.int a2), some (.int a3), some (.int a4), some (.int a5), some (.int a6), some (.int a7), some (.ref q8), some (.int a9), some (.int x5), some (.int r8), some (.int x70), some (.int x72), some (.int x77)]) (S2 := [.int x5, .ref 52, .int (a1 - 1), .ref 51]) (pc2 := 249) op78_247 rfl rfl ?_
                    obtain ⟨⟨r109, m108⟩, f110, gc117⟩ := rq_bind gc117
                    try dsimp only at gc117
                    refine ry_iv (p := 52) (vs := [.int x5]) (T := [.int (a1 - 1), .ref 51]) (pc2 := 252) op78_249 ms_88 (by decide) rfl rfl (Nat.le_of_ble_eq_true rfl) (Nat.le_of_ble_eq_true rfl) sp_52 (ga_previous_ok xs (by omega) sa_52 f110) rfl ?_
                    show rn_R _ _ _ _ _ [.int r109, .int (a1 - 1), .ref 51] _ _ _
                    cases gc117
                    exact c117 _
          · have gc125 := (if_neg b66).symm.trans gc125
            refine ry_go (tgt := 282) op78_77 (by decide) (by decide) ?_
            cases gc125
            exact c125 _ _ _ _ _
    · have h := (if_neg b3).symm.trans h
      cases h
      exact hr _ rfl _ _ _ _ _ _ _ _ _ _ _ _ _ _ _
set_option maxHeartbeats 4000000 in
set_option maxRecDepth 20000 in
theorem se_layTrick_ok (xs : List Int32) {d : Nat} (hd : 4 ≤ d) {rec : Int32 → Int32 → Int32 → Int32 → Int32 → Int32 → rn_Mem → Option (rn_Mem)} (hrec : ∀ {a1 : Int32} {a2 : Int32} {a3 : Int32} {a4 : Int32} {a5 : Int32} {a6 : Int32} {mI mO : rn_Mem} , rec a1 a2 a3 a4 a5 a6 mI = some mO → rn_R xs d 77 0 (rn_ent 8 [.ref 51, .int a1, .int a2, .int a3, .int a4, .int a5, .int a6]) [] (rn_SH, mI) none (rn_SH, mO)) {n : Nat} {a1 : Int32} {a2 : Int32} {a3 : Int32} {a4 : Int32} {a5 : Int32} {a6 : Int32} {a7 : Int32} {m mO : rn_Mem} (h : se_layTrick rec n a1 a2 a3 a4 a5 a6 a7 m = some mO) : rn_R xs (d + 1) 78 0 (rn_ent 15 [.ref 51, .int a1, .int a2, .int a3, .int a4, .int a5, .int a6, .int a7]) [] (rn_SH, m) none (rn_SH, mO) := by
  unfold se_layTrick at h
  show rn_R xs (d + 1) 78 0 [some (.ref 51), some (.int a1), some (.int a2), some (.int a3), some (.int a4), some (.int a5), some (.int a6), some (.int a7), none, none, none, none, none, none, none] [] (rn_SH, m) none (rn_SH, mO)
  refine rx_p (L2 := [some (.ref 51), some (.int a1), some (.int a2), some (.int a3), some (.int a4), some (.int a5), some (.int a6), some (.int a7), none, none, none, none, none, none, none]) (S2 := [.int a2]) (pc2 := 1) op78_0 rfl rfl ?_
  refine rx_ic (v := 4) (pc2 := 2) op78_1 (by decide) rfl ?_
  refine ry_ic_lt (tgt := 6) (pc2 := 5) op78_2 (by decide) (by decide) rfl (fun b1 => ?_) (fun b1 => ?_)
  · have h := (if_pos b1).symm.trans h
    refine rx_p (L2 := [some (.ref 51), some (.int a1), some (.int a2), some (.int a3), some (.int a4), some (.int a5), some (.int a6), some (.int a7), none, none, none, none, none, none, none]) (S2 := [.ref 51]) (pc2 := 7) op78_6 rfl rfl ?_
    refine rx_gf (v := .ref 62) (pc2 := 10) op78_7 sp_51 rfl rfl rfl ?_
    refine rx_p (L2 := [some (.ref 51), some (.int a1), some (.int a2), some (.int a3), some (.int a4), some (.int a5), some (.int a6), some (.int a7), none, none, none, none, none, none, none]) (S2 := [.int a2, .ref 62]) (pc2 := 11) op78_10 rfl rfl ?_
    obtain ⟨k2, h⟩ := rq_chk h
    refine rx_aa (q := (70 + 8 * a2.toNatClampNeg)) (pc2 := 12) op78_11 sp_62 (by decide) k2 (rn_ways_at k2) rfl ?_
    refine rx_p (L2 := [some (.ref 51), some (.int a1), some (.int a2), some (.int a3), some (.int a4), some (.int a5), some (.int a6), some (.int a7), some (.ref (70 + 8 * a2.toNatClampNeg)), none, none, none, none, none, none]) (S2 := []) (pc2 := 14) op78_12 rfl rfl ?_
    refine rx_ic (v := 0) (pc2 := 15) op78_14 (by decide) rfl ?_
    refine rx_s (L2 := [some (.ref 51), some (.int a1), some (.int a2), some (.int a3), some (.int a4), some (.int a5), some (.int a6), some (.int a7), some (.ref (70 + 8 * a2.toNatClampNeg)), some (.int 0), none, none, none, none, none]) (pc2 := 17) op78_15 rfl rfl rfl ?_
    obtain ⟨m126, f142, h⟩ := rq_bind h
    refine se_layTrick_l17_ok xs hd hrec (fun m0 eq => ?_) _ _ _ _ _ _ _ _ (rn_ways_asm k2) f142
    subst eq
    try dsimp only at h
    intro o127 o128 o129 o130 o131 o132 o133 o134 o135 o136 o137 o138 o139 o140 o141
    obtain rfl := Option.some.inj h
    exact ry_rv op78_288 ms_78 rfl
  · have h := (if_neg b1).symm.trans h
    obtain rfl := Option.some.inj h
    exact ry_rv op78_5 ms_78 rfl
