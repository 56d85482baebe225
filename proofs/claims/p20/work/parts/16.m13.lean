/-! ActSurgeryModel.twoDraws(IIIIII)J: level P -/
theorem dM_twoDraws_0 : decode cM_twoDraws 0 = .ok (.lconst 1, 1) := by decide +kernel
theorem dM_twoDraws_1 : decode cM_twoDraws 1 = .ok (.lstore 7, 2) := by decide +kernel
theorem dM_twoDraws_3 : decode cM_twoDraws 3 = .ok (.iconst 0, 1) := by decide +kernel
theorem dM_twoDraws_4 : decode cM_twoDraws 4 = .ok (.istore 9, 2) := by decide +kernel
theorem dM_twoDraws_6 : decode cM_twoDraws 6 = .ok (.iload 9, 2) := by decide +kernel
theorem dM_twoDraws_8 : decode cM_twoDraws 8 = .ok (.aload_n 0, 1) := by decide +kernel
theorem dM_twoDraws_9 : decode cM_twoDraws 9 = .ok (.invokevirtual 44, 3) := by decide +kernel
theorem dM_twoDraws_12 : decode cM_twoDraws 12 = .ok (.if_icmp .ge 202, 3) := by decide +kernel
theorem dM_twoDraws_15 : decode cM_twoDraws 15 = .ok (.lload 7, 2) := by decide +kernel
theorem dM_twoDraws_17 : decode cM_twoDraws 17 = .ok (.lconst 0, 1) := by decide +kernel
theorem dM_twoDraws_18 : decode cM_twoDraws 18 = .ok (.lcmp, 1) := by decide +kernel
theorem dM_twoDraws_19 : decode cM_twoDraws 19 = .ok (.ifCond .le 195, 3) := by decide +kernel
theorem dM_twoDraws_22 : decode cM_twoDraws 22 = .ok (.iload_n 1, 1) := by decide +kernel
theorem dM_twoDraws_23 : decode cM_twoDraws 23 = .ok (.iload 9, 2) := by decide +kernel
theorem dM_twoDraws_25 : decode cM_twoDraws 25 = .ok (.ishr, 1) := by decide +kernel
theorem dM_twoDraws_26 : decode cM_twoDraws 26 = .ok (.iconst 1, 1) := by decide +kernel
theorem dM_twoDraws_27 : decode cM_twoDraws 27 = .ok (.iand, 1) := by decide +kernel
theorem dM_twoDraws_28 : decode cM_twoDraws 28 = .ok (.istore 10, 2) := by decide +kernel
theorem dM_twoDraws_30 : decode cM_twoDraws 30 = .ok (.iload 4, 2) := by decide +kernel
theorem dM_twoDraws_32 : decode cM_twoDraws 32 = .ok (.iload 9, 2) := by decide +kernel
theorem dM_twoDraws_34 : decode cM_twoDraws 34 = .ok (.ishr, 1) := by decide +kernel
theorem dM_twoDraws_35 : decode cM_twoDraws 35 = .ok (.iconst 1, 1) := by decide +kernel
theorem dM_twoDraws_36 : decode cM_twoDraws 36 = .ok (.iand, 1) := by decide +kernel
theorem dM_twoDraws_37 : decode cM_twoDraws 37 = .ok (.istore 11, 2) := by decide +kernel
theorem dM_twoDraws_39 : decode cM_twoDraws 39 = .ok (.aload_n 0, 1) := by decide +kernel
theorem dM_twoDraws_40 : decode cM_twoDraws 40 = .ok (.getfield 16, 3) := by decide +kernel
theorem dM_twoDraws_43 : decode cM_twoDraws 43 = .ok (.iload 9, 2) := by decide +kernel
theorem dM_twoDraws_45 : decode cM_twoDraws 45 = .ok (.bipush 64, 2) := by decide +kernel
theorem dM_twoDraws_47 : decode cM_twoDraws 47 = .ok (.imul, 1) := by decide +kernel
theorem dM_twoDraws_48 : decode cM_twoDraws 48 = .ok (.iload_n 1, 1) := by decide +kernel
theorem dM_twoDraws_49 : decode cM_twoDraws 49 = .ok (.aload_n 0, 1) := by decide +kernel
theorem dM_twoDraws_50 : decode cM_twoDraws 50 = .ok (.getfield 13, 3) := by decide +kernel
theorem dM_twoDraws_53 : decode cM_twoDraws 53 = .ok (.iload 9, 2) := by decide +kernel
theorem dM_twoDraws_55 : decode cM_twoDraws 55 = .ok (.iaload, 1) := by decide +kernel
theorem dM_twoDraws_56 : decode cM_twoDraws 56 = .ok (.iand, 1) := by decide +kernel
theorem dM_twoDraws_57 : decode cM_twoDraws 57 = .ok (.iadd, 1) := by decide +kernel
theorem dM_twoDraws_58 : decode cM_twoDraws 58 = .ok (.iaload, 1) := by decide +kernel
theorem dM_twoDraws_59 : decode cM_twoDraws 59 = .ok (.istore 12, 2) := by decide +kernel
theorem dM_twoDraws_61 : decode cM_twoDraws 61 = .ok (.aload_n 0, 1) := by decide +kernel
theorem dM_twoDraws_62 : decode cM_twoDraws 62 = .ok (.getfield 16, 3) := by decide +kernel
theorem dM_twoDraws_65 : decode cM_twoDraws 65 = .ok (.iload 9, 2) := by decide +kernel
theorem dM_twoDraws_67 : decode cM_twoDraws 67 = .ok (.bipush 64, 2) := by decide +kernel
theorem dM_twoDraws_69 : decode cM_twoDraws 69 = .ok (.imul, 1) := by decide +kernel
theorem dM_twoDraws_70 : decode cM_twoDraws 70 = .ok (.iload 4, 2) := by decide +kernel
theorem dM_twoDraws_72 : decode cM_twoDraws 72 = .ok (.aload_n 0, 1) := by decide +kernel
theorem dM_twoDraws_73 : decode cM_twoDraws 73 = .ok (.getfield 13, 3) := by decide +kernel
theorem dM_twoDraws_76 : decode cM_twoDraws 76 = .ok (.iload 9, 2) := by decide +kernel
theorem dM_twoDraws_78 : decode cM_twoDraws 78 = .ok (.iaload, 1) := by decide +kernel
theorem dM_twoDraws_79 : decode cM_twoDraws 79 = .ok (.iand, 1) := by decide +kernel
theorem dM_twoDraws_80 : decode cM_twoDraws 80 = .ok (.iadd, 1) := by decide +kernel
theorem dM_twoDraws_81 : decode cM_twoDraws 81 = .ok (.iaload, 1) := by decide +kernel
theorem dM_twoDraws_82 : decode cM_twoDraws 82 = .ok (.istore 13, 2) := by decide +kernel
theorem dM_twoDraws_84 : decode cM_twoDraws 84 = .ok (.iload_n 2, 1) := by decide +kernel
theorem dM_twoDraws_85 : decode cM_twoDraws 85 = .ok (.iload 9, 2) := by decide +kernel
theorem dM_twoDraws_87 : decode cM_twoDraws 87 = .ok (.invokestatic 62, 3) := by decide +kernel
theorem dM_twoDraws_90 : decode cM_twoDraws 90 = .ok (.ifCond .eq 15, 3) := by decide +kernel
theorem dM_twoDraws_93 : decode cM_twoDraws 93 = .ok (.iload_n 3, 1) := by decide +kernel
theorem dM_twoDraws_94 : decode cM_twoDraws 94 = .ok (.iload 9, 2) := by decide +kernel
theorem dM_twoDraws_96 : decode cM_twoDraws 96 = .ok (.ishr, 1) := by decide +kernel
theorem dM_twoDraws_97 : decode cM_twoDraws 97 = .ok (.iconst 1, 1) := by decide +kernel
theorem dM_twoDraws_98 : decode cM_twoDraws 98 = .ok (.iand, 1) := by decide +kernel
theorem dM_twoDraws_99 : decode cM_twoDraws 99 = .ok (.bipush 16, 2) := by decide +kernel
theorem dM_twoDraws_101 : decode cM_twoDraws 101 = .ok (.imul, 1) := by decide +kernel
theorem dM_twoDraws_102 : decode cM_twoDraws 102 = .ok (.goto 5, 3) := by decide +kernel
theorem dM_twoDraws_105 : decode cM_twoDraws 105 = .ok (.iload 12, 2) := by decide +kernel
theorem dM_twoDraws_107 : decode cM_twoDraws 107 = .ok (.istore 14, 2) := by decide +kernel
theorem dM_twoDraws_109 : decode cM_twoDraws 109 = .ok (.iload 5, 2) := by decide +kernel
theorem dM_twoDraws_111 : decode cM_twoDraws 111 = .ok (.iload 9, 2) := by decide +kernel
theorem dM_twoDraws_113 : decode cM_twoDraws 113 = .ok (.invokestatic 62, 3) := by decide +kernel
theorem dM_twoDraws_116 : decode cM_twoDraws 116 = .ok (.ifCond .eq 16, 3) := by decide +kernel
theorem dM_twoDraws_119 : decode cM_twoDraws 119 = .ok (.iload 6, 2) := by decide +kernel
theorem dM_twoDraws_121 : decode cM_twoDraws 121 = .ok (.iload 9, 2) := by decide +kernel
theorem dM_twoDraws_123 : decode cM_twoDraws 123 = .ok (.ishr, 1) := by decide +kernel
theorem dM_twoDraws_124 : decode cM_twoDraws 124 = .ok (.iconst 1, 1) := by decide +kernel
theorem dM_twoDraws_125 : decode cM_twoDraws 125 = .ok (.iand, 1) := by decide +kernel
theorem dM_twoDraws_126 : decode cM_twoDraws 126 = .ok (.bipush 16, 2) := by decide +kernel
theorem dM_twoDraws_128 : decode cM_twoDraws 128 = .ok (.imul, 1) := by decide +kernel
theorem dM_twoDraws_129 : decode cM_twoDraws 129 = .ok (.goto 5, 3) := by decide +kernel
theorem dM_twoDraws_132 : decode cM_twoDraws 132 = .ok (.iload 13, 2) := by decide +kernel
theorem dM_twoDraws_134 : decode cM_twoDraws 134 = .ok (.istore 15, 2) := by decide +kernel
theorem dM_twoDraws_136 : decode cM_twoDraws 136 = .ok (.iload 14, 2) := by decide +kernel
theorem dM_twoDraws_138 : decode cM_twoDraws 138 = .ok (.iload 15, 2) := by decide +kernel
theorem dM_twoDraws_140 : decode cM_twoDraws 140 = .ok (.if_icmp .ge 8, 3) := by decide +kernel
theorem dM_twoDraws_143 : decode cM_twoDraws 143 = .ok (.iload 14, 2) := by decide +kernel
theorem dM_twoDraws_145 : decode cM_twoDraws 145 = .ok (.goto 5, 3) := by decide +kernel
theorem dM_twoDraws_148 : decode cM_twoDraws 148 = .ok (.iload 15, 2) := by decide +kernel
theorem dM_twoDraws_150 : decode cM_twoDraws 150 = .ok (.istore 16, 2) := by decide +kernel
theorem dM_twoDraws_152 : decode cM_twoDraws 152 = .ok (.lload 7, 2) := by decide +kernel
theorem dM_twoDraws_154 : decode cM_twoDraws 154 = .ok (.iload 10, 2) := by decide +kernel
theorem dM_twoDraws_156 : decode cM_twoDraws 156 = .ok (.iconst 1, 1) := by decide +kernel
theorem dM_twoDraws_157 : decode cM_twoDraws 157 = .ok (.if_icmp .ne 22, 3) := by decide +kernel
theorem dM_twoDraws_160 : decode cM_twoDraws 160 = .ok (.iload 11, 2) := by decide +kernel
theorem dM_twoDraws_162 : decode cM_twoDraws 162 = .ok (.iconst 1, 1) := by decide +kernel
theorem dM_twoDraws_163 : decode cM_twoDraws 163 = .ok (.if_icmp .ne 8, 3) := by decide +kernel
theorem dM_twoDraws_166 : decode cM_twoDraws 166 = .ok (.iload 16, 2) := by decide +kernel
theorem dM_twoDraws_168 : decode cM_twoDraws 168 = .ok (.goto 36, 3) := by decide +kernel
theorem dM_twoDraws_171 : decode cM_twoDraws 171 = .ok (.iload 14, 2) := by decide +kernel
theorem dM_twoDraws_173 : decode cM_twoDraws 173 = .ok (.iload 16, 2) := by decide +kernel
theorem dM_twoDraws_175 : decode cM_twoDraws 175 = .ok (.isub, 1) := by decide +kernel
theorem dM_twoDraws_176 : decode cM_twoDraws 176 = .ok (.goto 28, 3) := by decide +kernel
theorem dM_twoDraws_179 : decode cM_twoDraws 179 = .ok (.iload 11, 2) := by decide +kernel
theorem dM_twoDraws_181 : decode cM_twoDraws 181 = .ok (.iconst 1, 1) := by decide +kernel
theorem dM_twoDraws_182 : decode cM_twoDraws 182 = .ok (.if_icmp .ne 11, 3) := by decide +kernel
theorem dM_twoDraws_185 : decode cM_twoDraws 185 = .ok (.iload 15, 2) := by decide +kernel
theorem dM_twoDraws_187 : decode cM_twoDraws 187 = .ok (.iload 16, 2) := by decide +kernel
theorem dM_twoDraws_189 : decode cM_twoDraws 189 = .ok (.isub, 1) := by decide +kernel
theorem dM_twoDraws_190 : decode cM_twoDraws 190 = .ok (.goto 14, 3) := by decide +kernel
theorem dM_twoDraws_193 : decode cM_twoDraws 193 = .ok (.bipush 16, 2) := by decide +kernel
theorem dM_twoDraws_195 : decode cM_twoDraws 195 = .ok (.iload 14, 2) := by decide +kernel
theorem dM_twoDraws_197 : decode cM_twoDraws 197 = .ok (.isub, 1) := by decide +kernel
theorem dM_twoDraws_198 : decode cM_twoDraws 198 = .ok (.iload 15, 2) := by decide +kernel
theorem dM_twoDraws_200 : decode cM_twoDraws 200 = .ok (.isub, 1) := by decide +kernel
theorem dM_twoDraws_201 : decode cM_twoDraws 201 = .ok (.iload 16, 2) := by decide +kernel
theorem dM_twoDraws_203 : decode cM_twoDraws 203 = .ok (.iadd, 1) := by decide +kernel
theorem dM_twoDraws_204 : decode cM_twoDraws 204 = .ok (.i2l, 1) := by decide +kernel
theorem dM_twoDraws_205 : decode cM_twoDraws 205 = .ok (.lmul, 1) := by decide +kernel
theorem dM_twoDraws_206 : decode cM_twoDraws 206 = .ok (.lstore 7, 2) := by decide +kernel
theorem dM_twoDraws_208 : decode cM_twoDraws 208 = .ok (.iinc 9 1, 3) := by decide +kernel
theorem dM_twoDraws_211 : decode cM_twoDraws 211 = .ok (.goto (-205), 3) := by decide +kernel
theorem dM_twoDraws_214 : decode cM_twoDraws 214 = .ok (.lload 7, 2) := by decide +kernel
theorem dM_twoDraws_216 : decode cM_twoDraws 216 = .ok (.lreturn, 1) := by decide +kernel
def fM_twoDraws_6 (w : x_W) : Nat → Nat → Int32 → Int32 → Int32 → Int32 → Int32 → Int32 → Int64 → Int32 → Option Int64
  | 0, _, _, _, _, _, _, _, _, _ => none
  | n + 1, v0, v1, v2, v3, v4, v5, v6, v7, v9 =>
    (x_ob w v0 5).bind fun _ =>
    (fM_n w v0).bind fun t2 =>
    if t2 ≤ v9 then
      some v7
    else
      if (lg_cmp v7 (0 : Int64)) ≤ (0 : Int32) then
        some v7
      else
        (x_fr w v0 5 2).bind fun t5 =>
        (x_fr w v0 5 1).bind fun t6 =>
        (x_ai w t6 v9).bind fun t7 =>
        (x_ai w t5 ((v9 * (64 : Int32)) + (v1 &&& t7))).bind fun t8 =>
        (x_ai w t5 ((v9 * (64 : Int32)) + (v4 &&& t7))).bind fun t9 =>
        if (fM_has v2 v9) = (0 : Int32) then
          if (fM_has v5 v9) = (0 : Int32) then
            if t9 ≤ t8 then
              if ((v1 >>> (v9 &&& 31)) &&& (1 : Int32)) = (1 : Int32) then
                if ((v4 >>> (v9 &&& 31)) &&& (1 : Int32)) = (1 : Int32) then
                  fM_twoDraws_6 w n v0 v1 v2 v3 v4 v5 v6 (v7 * t9.toInt64) (v9 + (1 : Int32))
                else
                  fM_twoDraws_6 w n v0 v1 v2 v3 v4 v5 v6 (v7 * (t8 - t9).toInt64) (v9 + (1 : Int32))
              else
                if ((v4 >>> (v9 &&& 31)) &&& (1 : Int32)) = (1 : Int32) then
                  fM_twoDraws_6 w n v0 v1 v2 v3 v4 v5 v6 (v7 * (t9 - t9).toInt64) (v9 + (1 : Int32))
                else
                  fM_twoDraws_6 w n v0 v1 v2 v3 v4 v5 v6 (v7 * ((((16 : Int32) - t8) - t9) + t9).toInt64) (v9 + (1 : Int32))
            else
              if ((v1 >>> (v9 &&& 31)) &&& (1 : Int32)) = (1 : Int32) then
                if ((v4 >>> (v9 &&& 31)) &&& (1 : Int32)) = (1 : Int32) then
                  fM_twoDraws_6 w n v0 v1 v2 v3 v4 v5 v6 (v7 * t8.toInt64) (v9 + (1 : Int32))
                else
                  fM_twoDraws_6 w n v0 v1 v2 v3 v4 v5 v6 (v7 * (t8 - t8).toInt64) (v9 + (1 : Int32))
              else
                if ((v4 >>> (v9 &&& 31)) &&& (1 : Int32)) = (1 : Int32) then
                  fM_twoDraws_6 w n v0 v1 v2 v3 v4 v5 v6 (v7 * (t9 - t8).toInt64) (v9 + (1 : Int32))
                else
                  fM_twoDraws_6 w n v0 v1 v2 v3 v4 v5 v6 (v7 * ((((16 : Int32) - t8) - t9) + t8).toInt64) (v9 + (1 : Int32))
          else
            if (((v6 >>> (v9 &&& 31)) &&& (1 : Int32)) * (16 : Int32)) ≤ t8 then
              if ((v1 >>> (v9 &&& 31)) &&& (1 : Int32)) = (1 : Int32) then
                if ((v4 >>> (v9 &&& 31)) &&& (1 : Int32)) = (1 : Int32) then
                  fM_twoDraws_6 w n v0 v1 v2 v3 v4 v5 v6 (v7 * (((v6 >>> (v9 &&& 31)) &&& (1 : Int32)) * (16 : Int32)).toInt64) (v9 + (1 : Int32))
                else
                  fM_twoDraws_6 w n v0 v1 v2 v3 v4 v5 v6 (v7 * (t8 - (((v6 >>> (v9 &&& 31)) &&& (1 : Int32)) * (16 : Int32))).toInt64) (v9 + (1 : Int32))
              else
                if ((v4 >>> (v9 &&& 31)) &&& (1 : Int32)) = (1 : Int32) then
                  fM_twoDraws_6 w n v0 v1 v2 v3 v4 v5 v6 (v7 * ((((v6 >>> (v9 &&& 31)) &&& (1 : Int32)) * (16 : Int32)) - (((v6 >>> (v9 &&& 31)) &&& (1 : Int32)) * (16 : Int32))).toInt64) (v9 + (1 : Int32))
                else
                  fM_twoDraws_6 w n v0 v1 v2 v3 v4 v5 v6 (v7 * ((((16 : Int32) - t8) - (((v6 >>> (v9 &&& 31)) &&& (1 : Int32)) * (16 : Int32))) + (((v6 >>> (v9 &&& 31)) &&& (1 : Int32)) * (16 : Int32))).toInt64) (v9 + (1 : Int32))
            else
              if ((v1 >>> (v9 &&& 31)) &&& (1 : Int32)) = (1 : Int32) then
                if ((v4 >>> (v9 &&& 31)) &&& (1 : Int32)) = (1 : Int32) then
                  fM_twoDraws_6 w n v0 v1 v2 v3 v4 v5 v6 (v7 * t8.toInt64) (v9 + (1 : Int32))
                else
                  fM_twoDraws_6 w n v0 v1 v2 v3 v4 v5 v6 (v7 * (t8 - t8).toInt64) (v9 + (1 : Int32))
              else
                if ((v4 >>> (v9 &&& 31)) &&& (1 : Int32)) = (1 : Int32) then
                  fM_twoDraws_6 w n v0 v1 v2 v3 v4 v5 v6 (v7 * ((((v6 >>> (v9 &&& 31)) &&& (1 : Int32)) * (16 : Int32)) - t8).toInt64) (v9 + (1 : Int32))
                else
                  fM_twoDraws_6 w n v0 v1 v2 v3 v4 v5 v6 (v7 * ((((16 : Int32) - t8) - (((v6 >>> (v9 &&& 31)) &&& (1 : Int32)) * (16 : Int32))) + t8).toInt64) (v9 + (1 : Int32))
        else
          if (fM_has v5 v9) = (0 : Int32) then
            if t9 ≤ (((v3 >>> (v9 &&& 31)) &&& (1 : Int32)) * (16 : Int32)) then
              if ((v1 >>> (v9 &&& 31)) &&& (1 : Int32)) = (1 : Int32) then
                if ((v4 >>> (v9 &&& 31)) &&& (1 : Int32)) = (1 : Int32) then
                  fM_twoDraws_6 w n v0 v1 v2 v3 v4 v5 v6 (v7 * t9.toInt64) (v9 + (1 : Int32))
                else
                  fM_twoDraws_6 w n v0 v1 v2 v3 v4 v5 v6 (v7 * ((((v3 >>> (v9 &&& 31)) &&& (1 : Int32)) * (16 : Int32)) - t9).toInt64) (v9 + (1 : Int32))
              else
                if ((v4 >>> (v9 &&& 31)) &&& (1 : Int32)) = (1 : Int32) then
                  fM_twoDraws_6 w n v0 v1 v2 v3 v4 v5 v6 (v7 * (t9 - t9).toInt64) (v9 + (1 : Int32))
                else
                  fM_twoDraws_6 w n v0 v1 v2 v3 v4 v5 v6 (v7 * ((((16 : Int32) - (((v3 >>> (v9 &&& 31)) &&& (1 : Int32)) * (16 : Int32))) - t9) + t9).toInt64) (v9 + (1 : Int32))
            else
              if ((v1 >>> (v9 &&& 31)) &&& (1 : Int32)) = (1 : Int32) then
                if ((v4 >>> (v9 &&& 31)) &&& (1 : Int32)) = (1 : Int32) then
                  fM_twoDraws_6 w n v0 v1 v2 v3 v4 v5 v6 (v7 * (((v3 >>> (v9 &&& 31)) &&& (1 : Int32)) * (16 : Int32)).toInt64) (v9 + (1 : Int32))
                else
                  fM_twoDraws_6 w n v0 v1 v2 v3 v4 v5 v6 (v7 * ((((v3 >>> (v9 &&& 31)) &&& (1 : Int32)) * (16 : Int32)) - (((v3 >>> (v9 &&& 31)) &&& (1 : Int32)) * (16 : Int32))).toInt64) (v9 + (1 : Int32))
              else
                if ((v4 >>> (v9 &&& 31)) &&& (1 : Int32)) = (1 : Int32) then
                  fM_twoDraws_6 w n v0 v1 v2 v3 v4 v5 v6 (v7 * (t9 - (((v3 >>> (v9 &&& 31)) &&& (1 : Int32)) * (16 : Int32))).toInt64) (v9 + (1 : Int32))
                else
                  fM_twoDraws_6 w n v0 v1 v2 v3 v4 v5 v6 (v7 * ((((16 : Int32) - (((v3 >>> (v9 &&& 31)) &&& (1 : Int32)) * (16 : Int32))) - t9) + (((v3 >>> (v9 &&& 31)) &&& (1 : Int32)) * (16 : Int32))).toInt64) (v9 + (1 : Int32))
          else
            if (((v6 >>> (v9 &&& 31)) &&& (1 : Int32)) * (16 : Int32)) ≤ (((v3 >>> (v9 &&& 31)) &&& (1 : Int32)) * (16 : Int32)) then
              if ((v1 >>> (v9 &&& 31)) &&& (1 : Int32)) = (1 : Int32) then
                if ((v4 >>> (v9 &&& 31)) &&& (1 : Int32)) = (1 : Int32) then
                  fM_twoDraws_6 w n v0 v1 v2 v3 v4 v5 v6 (v7 * (((v6 >>> (v9 &&& 31)) &&& (1 : Int32)) * (16 : Int32)).toInt64) (v9 + (1 : Int32))
                else
                  fM_twoDraws_6 w n v0 v1 v2 v3 v4 v5 v6 (v7 * ((((v3 >>> (v9 &&& 31)) &&& (1 : Int32)) * (16 : Int32)) - (((v6 >>> (v9 &&& 31)) &&& (1 : Int32)) * (16 : Int32))).toInt64) (v9 + (1 : Int32))
              else
                if ((v4 >>> (v9 &&& 31)) &&& (1 : Int32)) = (1 : Int32) then
                  fM_twoDraws_6 w n v0 v1 v2 v3 v4 v5 v6 (v7 * ((((v6 >>> (v9 &&& 31)) &&& (1 : Int32)) * (16 : Int32)) - (((v6 >>> (v9 &&& 31)) &&& (1 : Int32)) * (16 : Int32))).toInt64) (v9 + (1 : Int32))
                else
                  fM_twoDraws_6 w n v0 v1 v2 v3 v4 v5 v6 (v7 * ((((16 : Int32) - (((v3 >>> (v9 &&& 31)) &&& (1 : Int32)) * (16 : Int32))) - (((v6 >>> (v9 &&& 31)) &&& (1 : Int32)) * (16 : Int32))) + (((v6 >>> (v9 &&& 31)) &&& (1 : Int32)) * (16 : Int32))).toInt64) (v9 + (1 : Int32))
            else
              if ((v1 >>> (v9 &&& 31)) &&& (1 : Int32)) = (1 : Int32) then
                if ((v4 >>> (v9 &&& 31)) &&& (1 : Int32)) = (1 : Int32) then
                  fM_twoDraws_6 w n v0 v1 v2 v3 v4 v5 v6 (v7 * (((v3 >>> (v9 &&& 31)) &&& (1 : Int32)) * (16 : Int32)).toInt64) (v9 + (1 : Int32))
                else
                  fM_twoDraws_6 w n v0 v1 v2 v3 v4 v5 v6 (v7 * ((((v3 >>> (v9 &&& 31)) &&& (1 : Int32)) * (16 : Int32)) - (((v3 >>> (v9 &&& 31)) &&& (1 : Int32)) * (16 : Int32))).toInt64) (v9 + (1 : Int32))
              else
                if ((v4 >>> (v9 &&& 31)) &&& (1 : Int32)) = (1 : Int32) then
                  fM_twoDraws_6 w n v0 v1 v2 v3 v4 v5 v6 (v7 * ((((v6 >>> (v9 &&& 31)) &&& (1 : Int32)) * (16 : Int32)) - (((v3 >>> (v9 &&& 31)) &&& (1 : Int32)) * (16 : Int32))).toInt64) (v9 + (1 : Int32))
                else
                  fM_twoDraws_6 w n v0 v1 v2 v3 v4 v5 v6 (v7 * ((((16 : Int32) - (((v3 >>> (v9 &&& 31)) &&& (1 : Int32)) * (16 : Int32))) - (((v6 >>> (v9 &&& 31)) &&& (1 : Int32)) * (16 : Int32))) + (((v3 >>> (v9 &&& 31)) &&& (1 : Int32)) * (16 : Int32))).toInt64) (v9 + (1 : Int32))
def fM_twoDraws (w : x_W) (v0 : Nat) (v1 : Int32) (v2 : Int32) (v3 : Int32) (v4 : Int32) (v5 : Int32) (v6 : Int32) : Option Int64 :=
  fM_twoDraws_6 w x_F v0 v1 v2 v3 v4 v5 v6 (1 : Int64) (0 : Int32)
set_option maxHeartbeats 4000000 in
set_option maxRecDepth 100000 in
theorem lM_twoDraws_6 (d : Nat) (hd : 2 ≤ d) {K : Option Value → x_W → Prop} {r : Int64} {w : x_W} (hK : K (some (.long r)) w) : ∀ (n : Nat) (v0 : Nat) (v1 : Int32) (v2 : Int32) (v3 : Int32) (v4 : Int32) (v5 : Int32) (v6 : Int32) (v7 : Int64) (v9 : Int32), fM_twoDraws_6 w n v0 v1 v2 v3 v4 v5 v6 v7 v9 = some r → x_G none yM_twoDraws cM_twoDraws 17 (some .long) (x_room d 0 0) (x_QM K 0 0) 6 [some (.ref v0), some (.int v1), some (.int v2), some (.int v3), some (.int v4), some (.int v5), some (.int v6), some (.long v7), none, some (.int v9), none, none, none, none, none, none, none] [] w 0 0 := by
  intro n
  induction n with
  | zero => intro v0 v1 v2 v3 v4 v5 v6 v7 v9 h; rw [fM_twoDraws_6] at h; cases h
  | succ n ih =>
    intro v0 v1 v2 v3 v4 v5 v6 v7 v9 h
    rw [fM_twoDraws_6] at h
    refine g_iload 8 dM_twoDraws_6 rfl rfl ?_
    refine g_aload_n 9 (i := 0) dM_twoDraws_8 rfl rfl rfl ?_
    obtain ⟨_, e1, h⟩ := x_bind h
    obtain ⟨t2, e2, h⟩ := x_bind h
    refine g_cV 12 (some (.int t2)) w [] [.int v9] dM_twoDraws_9 rfl (fun _ hK2 => mM_n (d - 1) (by omega) e2 hK2) (x_ob_some e1) kM_44 (x_rm (Nat.le_trans (by decide) hd) (by decide)) ⟨Nat.zero_le _, Nat.zero_le _⟩ (Nat.le_of_ble_eq_true rfl) rfl ?_
    by_cases c3 : t2 ≤ v9
    · rw [if_pos c3] at h
      refine g_icmp_ge_t 214 dM_twoDraws_12 (by decide) c3 ?_
      refine g_lload 216 dM_twoDraws_214 rfl rfl ?_
      obtain rfl := Option.some.inj h
      exact g_lret rfl dM_twoDraws_216 hK
    · rw [if_neg c3] at h
      refine g_icmp_ge_f 15 214 dM_twoDraws_12 (by decide) rfl c3 ?_
      refine g_lload 17 dM_twoDraws_15 rfl rfl ?_
      refine g_lconst 18 (0 : Int64) dM_twoDraws_17 rfl (by decide) ?_
      refine g_lcmp 19 dM_twoDraws_18 rfl ?_
      by_cases c4 : (lg_cmp v7 (0 : Int64)) ≤ (0 : Int32)
      · rw [if_pos c4] at h
        refine g_if_le_t 214 dM_twoDraws_19 (by decide) c4 ?_
        refine g_lload 216 dM_twoDraws_214 rfl rfl ?_
        obtain rfl := Option.some.inj h
        exact g_lret rfl dM_twoDraws_216 hK
      · rw [if_neg c4] at h
        refine g_if_le_f 22 214 dM_twoDraws_19 (by decide) rfl c4 ?_
        refine g_iload_n 23 (i := 1) dM_twoDraws_22 rfl rfl rfl ?_
        refine g_iload 25 dM_twoDraws_23 rfl rfl ?_
        refine g_ishr 26 dM_twoDraws_25 rfl ?_
        refine g_iconst 27 (1 : Int32) dM_twoDraws_26 rfl (by decide) ?_
        refine g_iand 28 dM_twoDraws_27 rfl ?_
        refine g_istore 30 [some (.ref v0), some (.int v1), some (.int v2), some (.int v3), some (.int v4), some (.int v5), some (.int v6), some (.long v7), none, some (.int v9), some (.int ((v1 >>> (v9 &&& 31)) &&& (1 : Int32))), none, none, none, none, none, none] dM_twoDraws_28 rfl rfl (by decide) ?_
        refine g_iload 32 dM_twoDraws_30 rfl rfl ?_
        refine g_iload 34 dM_twoDraws_32 rfl rfl ?_
        refine g_ishr 35 dM_twoDraws_34 rfl ?_
        refine g_iconst 36 (1 : Int32) dM_twoDraws_35 rfl (by decide) ?_
        refine g_iand 37 dM_twoDraws_36 rfl ?_
        refine g_istore 39 [some (.ref v0), some (.int v1), some (.int v2), some (.int v3), some (.int v4), some (.int v5), some (.int v6), some (.long v7), none, some (.int v9), some (.int ((v1 >>> (v9 &&& 31)) &&& (1 : Int32))), some (.int ((v4 >>> (v9 &&& 31)) &&& (1 : Int32))), none, none, none, none, none] dM_twoDraws_37 rfl rfl (by decide) ?_
        refine g_aload_n 40 (i := 0) dM_twoDraws_39 rfl rfl rfl ?_
        obtain ⟨t5, e5, h⟩ := x_bind h
        refine g_getfR 43 5 2 dM_twoDraws_40 rfl x_in5 tw_2_237 rfl (by decide) e5 ?_
        refine g_iload 45 dM_twoDraws_43 rfl rfl ?_
        refine g_bipush 47 (64 : Int32) dM_twoDraws_45 rfl (by decide) ?_
        refine g_imul 48 dM_twoDraws_47 rfl ?_
        refine g_iload_n 49 (i := 1) dM_twoDraws_48 rfl rfl rfl ?_
        refine g_aload_n 50 (i := 0) dM_twoDraws_49 rfl rfl rfl ?_
        obtain ⟨t6, e6, h⟩ := x_bind h
        refine g_getfR 53 5 1 dM_twoDraws_50 rfl x_in5 tw_2_236 rfl (by decide) e6 ?_
        refine g_iload 55 dM_twoDraws_53 rfl rfl ?_
        obtain ⟨t7, e7, h⟩ := x_bind h
        refine g_iald 56 dM_twoDraws_55 rfl e7 ?_
        refine g_iand 57 dM_twoDraws_56 rfl ?_
        refine g_iadd 58 dM_twoDraws_57 rfl ?_
        obtain ⟨t8, e8, h⟩ := x_bind h
        refine g_iald 59 dM_twoDraws_58 rfl e8 ?_
        refine g_istore 61 [some (.ref v0), some (.int v1), some (.int v2), some (.int v3), some (.int v4), some (.int v5), some (.int v6), some (.long v7), none, some (.int v9), some (.int ((v1 >>> (v9 &&& 31)) &&& (1 : Int32))), some (.int ((v4 >>> (v9 &&& 31)) &&& (1 : Int32))), some (.int t8), none, none, none, none] dM_twoDraws_59 rfl rfl (by decide) ?_
        refine g_aload_n 62 (i := 0) dM_twoDraws_61 rfl rfl rfl ?_
        refine g_getfR 65 5 2 dM_twoDraws_62 rfl x_in5 tw_2_237 rfl (by decide) e5 ?_
        refine g_iload 67 dM_twoDraws_65 rfl rfl ?_
        refine g_bipush 69 (64 : Int32) dM_twoDraws_67 rfl (by decide) ?_
        refine g_imul 70 dM_twoDraws_69 rfl ?_
        refine g_iload 72 dM_twoDraws_70 rfl rfl ?_
        refine g_aload_n 73 (i := 0) dM_twoDraws_72 rfl rfl rfl ?_
        refine g_getfR 76 5 1 dM_twoDraws_73 rfl x_in5 tw_2_236 rfl (by decide) e6 ?_
        refine g_iload 78 dM_twoDraws_76 rfl rfl ?_
        refine g_iald 79 dM_twoDraws_78 rfl e7 ?_
        refine g_iand 80 dM_twoDraws_79 rfl ?_
        refine g_iadd 81 dM_twoDraws_80 rfl ?_
        obtain ⟨t9, e9, h⟩ := x_bind h
        refine g_iald 82 dM_twoDraws_81 rfl e9 ?_
        refine g_istore 84 [some (.ref v0), some (.int v1), some (.int v2), some (.int v3), some (.int v4), some (.int v5), some (.int v6), some (.long v7), none, some (.int v9), some (.int ((v1 >>> (v9 &&& 31)) &&& (1 : Int32))), some (.int ((v4 >>> (v9 &&& 31)) &&& (1 : Int32))), some (.int t8), some (.int t9), none, none, none] dM_twoDraws_82 rfl rfl (by decide) ?_
        refine g_iload_n 85 (i := 2) dM_twoDraws_84 rfl rfl rfl ?_
        refine g_iload 87 dM_twoDraws_85 rfl rfl ?_
        refine g_cS 90 (some (.int (fM_has v2 v9))) w [.int v2, .int v9] [] dM_twoDraws_87 rfl (fun _ hK2 => mM_has (d - 1) (by omega) rfl hK2) kM_62 (x_rm (Nat.le_trans (by decide) hd) (by decide)) ⟨Nat.zero_le _, Nat.zero_le _⟩ (Nat.le_of_ble_eq_true rfl) rfl ?_
        by_cases c10 : (fM_has v2 v9) = (0 : Int32)
        · rw [if_pos c10] at h
          refine g_if_eq_t 105 dM_twoDraws_90 (by decide) c10 ?_
          refine g_iload 107 dM_twoDraws_105 rfl rfl ?_
          refine g_istore 109 [some (.ref v0), some (.int v1), some (.int v2), some (.int v3), some (.int v4), some (.int v5), some (.int v6), some (.long v7), none, some (.int v9), some (.int ((v1 >>> (v9 &&& 31)) &&& (1 : Int32))), some (.int ((v4 >>> (v9 &&& 31)) &&& (1 : Int32))), some (.int t8), some (.int t9), some (.int t8), none, none] dM_twoDraws_107 rfl rfl (by decide) ?_
          refine g_iload 111 dM_twoDraws_109 rfl rfl ?_
          refine g_iload 113 dM_twoDraws_111 rfl rfl ?_
          refine g_cS 116 (some (.int (fM_has v5 v9))) w [.int v5, .int v9] [] dM_twoDraws_113 rfl (fun _ hK2 => mM_has (d - 1) (by omega) rfl hK2) kM_62 (x_rm (Nat.le_trans (by decide) hd) (by decide)) ⟨Nat.zero_le _, Nat.zero_le _⟩ (Nat.le_of_ble_eq_true rfl) rfl ?_
          by_cases c11 : (fM_has v5 v9) = (0 : Int32)
          · rw [if_pos c11] at h
            refine g_if_eq_t 132 dM_twoDraws_116 (by decide) c11 ?_
            refine g_iload 134 dM_twoDraws_132 rfl rfl ?_
            refine g_istore 136 [some (.ref v0), some (.int v1), some (.int v2), some (.int v3), some (.int v4), some (.int v5), some (.int v6), some (.long v7), none, some (.int v9), some (.int ((v1 >>> (v9 &&& 31)) &&& (1 : Int32))), some (.int ((v4 >>> (v9 &&& 31)) &&& (1 : Int32))), some (.int t8), some (.int t9), some (.int t8), some (.int t9), none] dM_twoDraws_134 rfl rfl (by decide) ?_
            refine g_iload 138 dM_twoDraws_136 rfl rfl ?_
            refine g_iload 140 dM_twoDraws_138 rfl rfl ?_
            by_cases c12 : t9 ≤ t8
            · rw [if_pos c12] at h
              refine g_icmp_ge_t 148 dM_twoDraws_140 (by decide) c12 ?_
              refine g_iload 150 dM_twoDraws_148 rfl rfl ?_
              refine g_istore 152 [some (.ref v0), some (.int v1), some (.int v2), some (.int v3), some (.int v4), some (.int v5), some (.int v6), some (.long v7), none, some (.int v9), some (.int ((v1 >>> (v9 &&& 31)) &&& (1 : Int32))), some (.int ((v4 >>> (v9 &&& 31)) &&& (1 : Int32))), some (.int t8), some (.int t9), some (.int t8), some (.int t9), some (.int t9)] dM_twoDraws_150 rfl rfl (by decide) ?_
              refine g_lload 154 dM_twoDraws_152 rfl rfl ?_
              refine g_iload 156 dM_twoDraws_154 rfl rfl ?_
              refine g_iconst 157 (1 : Int32) dM_twoDraws_156 rfl (by decide) ?_
              by_cases c13 : ((v1 >>> (v9 &&& 31)) &&& (1 : Int32)) = (1 : Int32)
              · rw [if_pos c13] at h
                refine g_icmp_ne_f 160 179 dM_twoDraws_157 (by decide) rfl c13 ?_
                refine g_iload 162 dM_twoDraws_160 rfl rfl ?_
                refine g_iconst 163 (1 : Int32) dM_twoDraws_162 rfl (by decide) ?_
                by_cases c14 : ((v4 >>> (v9 &&& 31)) &&& (1 : Int32)) = (1 : Int32)
                · rw [if_pos c14] at h
                  refine g_icmp_ne_f 166 171 dM_twoDraws_163 (by decide) rfl c14 ?_
                  refine g_iload 168 dM_twoDraws_166 rfl rfl ?_
                  refine g_goto 204 dM_twoDraws_168 (by decide) ?_
                  refine g_i2l 205 dM_twoDraws_204 rfl ?_
                  refine g_lmul 206 dM_twoDraws_205 rfl ?_
                  refine g_lstore 208 [some (.ref v0), some (.int v1), some (.int v2), some (.int v3), some (.int v4), some (.int v5), some (.int v6), some (.long (v7 * t9.toInt64)), none, some (.int v9), some (.int ((v1 >>> (v9 &&& 31)) &&& (1 : Int32))), some (.int ((v4 >>> (v9 &&& 31)) &&& (1 : Int32))), some (.int t8), some (.int t9), some (.int t8), some (.int t9), some (.int t9)] dM_twoDraws_206 rfl rfl (by decide) ?_
                  refine g_iinc 211 [some (.ref v0), some (.int v1), some (.int v2), some (.int v3), some (.int v4), some (.int v5), some (.int v6), some (.long (v7 * t9.toInt64)), none, some (.int (v9 + (1 : Int32))), some (.int ((v1 >>> (v9 &&& 31)) &&& (1 : Int32))), some (.int ((v4 >>> (v9 &&& 31)) &&& (1 : Int32))), some (.int t8), some (.int t9), some (.int t8), some (.int t9), some (.int t9)] dM_twoDraws_208 rfl rfl (x_inc (1 : Int32) (by decide)) rfl (by decide) ?_
                  refine g_goto 6 dM_twoDraws_211 (by decide) ?_
                  refine g_less [some (.ref v0), some (.int v1), some (.int v2), some (.int v3), some (.int v4), some (.int v5), some (.int v6), some (.long (v7 * t9.toInt64)), none, some (.int (v9 + (1 : Int32))), none, none, none, none, none, none, none] ⟨rfl, rfl, rfl, rfl, rfl, rfl, rfl, rfl, rfl, trivial⟩ ?_
                  exact ih _ _ _ _ _ _ _ _ _ h
                · rw [if_neg c14] at h
                  refine g_icmp_ne_t 171 dM_twoDraws_163 (by decide) c14 ?_
                  refine g_iload 173 dM_twoDraws_171 rfl rfl ?_
                  refine g_iload 175 dM_twoDraws_173 rfl rfl ?_
                  refine g_isub 176 dM_twoDraws_175 rfl ?_
                  refine g_goto 204 dM_twoDraws_176 (by decide) ?_
                  refine g_i2l 205 dM_twoDraws_204 rfl ?_
                  refine g_lmul 206 dM_twoDraws_205 rfl ?_
                  refine g_lstore 208 [some (.ref v0), some (.int v1), some (.int v2), some (.int v3), some (.int v4), some (.int v5), some (.int v6), some (.long (v7 * (t8 - t9).toInt64)), none, some (.int v9), some (.int ((v1 >>> (v9 &&& 31)) &&& (1 : Int32))), some (.int ((v4 >>> (v9 &&& 31)) &&& (1 : Int32))), some (.int t8), some (.int t9), some (.int t8), some (.int t9), some (.int t9)] dM_twoDraws_206 rfl rfl (by decide) ?_
                  refine g_iinc 211 [some (.ref v0), some (.int v1), some (.int v2), some (.int v3), some (.int v4), some (.int v5), some (.int v6), some (.long (v7 * (t8 - t9).toInt64)), none, some (.int (v9 + (1 : Int32))), some (.int ((v1 >>> (v9 &&& 31)) &&& (1 : Int32))), some (.int ((v4 >>> (v9 &&& 31)) &&& (1 : Int32))), some (.int t8), some (.int t9), some (.int t8), some (.int t9), some (.int t9)] dM_twoDraws_208 rfl rfl (x_inc (1 : Int32) (by decide)) rfl (by decide) ?_
                  refine g_goto 6 dM_twoDraws_211 (by decide) ?_
                  refine g_less [some (.ref v0), some (.int v1), some (.int v2), some (.int v3), some (.int v4), some (.int v5), some (.int v6), some (.long (v7 * (t8 - t9).toInt64)), none, some (.int (v9 + (1 : Int32))), none, none, none, none, none, none, none] ⟨rfl, rfl, rfl, rfl, rfl, rfl, rfl, rfl, rfl, trivial⟩ ?_
                  exact ih _ _ _ _ _ _ _ _ _ h
              · rw [if_neg c13] at h
                refine g_icmp_ne_t 179 dM_twoDraws_157 (by decide) c13 ?_
                refine g_iload 181 dM_twoDraws_179 rfl rfl ?_
                refine g_iconst 182 (1 : Int32) dM_twoDraws_181 rfl (by decide) ?_
                by_cases c15 : ((v4 >>> (v9 &&& 31)) &&& (1 : Int32)) = (1 : Int32)
                · rw [if_pos c15] at h
                  refine g_icmp_ne_f 185 193 dM_twoDraws_182 (by decide) rfl c15 ?_
                  refine g_iload 187 dM_twoDraws_185 rfl rfl ?_
                  refine g_iload 189 dM_twoDraws_187 rfl rfl ?_
                  refine g_isub 190 dM_twoDraws_189 rfl ?_
                  refine g_goto 204 dM_twoDraws_190 (by decide) ?_
                  refine g_i2l 205 dM_twoDraws_204 rfl ?_
                  refine g_lmul 206 dM_twoDraws_205 rfl ?_
                  refine g_lstore 208 [some (.ref v0), some (.int v1), some (.int v2), some (.int v3), some (.int v4), some (.int v5), some (.int v6), some (.long (v7 * (t9 - t9).toInt64)), none, some (.int v9), some (.int ((v1 >>> (v9 &&& 31)) &&& (1 : Int32))), some (.int ((v4 >>> (v9 &&& 31)) &&& (1 : Int32))), some (.int t8), some (.int t9), some (.int t8), some (.int t9), some (.int t9)] dM_twoDraws_206 rfl rfl (by decide) ?_
                  refine g_iinc 211 [some (.ref v0), some (.int v1), some (.int v2), some (.int v3), some (.int v4), some (.int v5), some (.int v6), some (.long (v7 * (t9 - t9).toInt64)), none, some (.int (v9 + (1 : Int32))), some (.int ((v1 >>> (v9 &&& 31)) &&& (1 : Int32))), some (.int ((v4 >>> (v9 &&& 31)) &&& (1 : Int32))), some (.int t8), some (.int t9), some (.int t8), some (.int t9), some (.int t9)] dM_twoDraws_208 rfl rfl (x_inc (1 : Int32) (by decide)) rfl (by decide) ?_
                  refine g_goto 6 dM_twoDraws_211 (by decide) ?_
                  refine g_less [some (.ref v0), some (.int v1), some (.int v2), some (.int v3), some (.int v4), some (.int v5), some (.int v6), some (.long (v7 * (t9 - t9).toInt64)), none, some (.int (v9 + (1 : Int32))), none, none, none, none, none, none, none] ⟨rfl, rfl, rfl, rfl, rfl, rfl, rfl, rfl, rfl, trivial⟩ ?_
                  exact ih _ _ _ _ _ _ _ _ _ h
                · rw [if_neg c15] at h
                  refine g_icmp_ne_t 193 dM_twoDraws_182 (by decide) c15 ?_
                  refine g_bipush 195 (16 : Int32) dM_twoDraws_193 rfl (by decide) ?_
                  refine g_iload 197 dM_twoDraws_195 rfl rfl ?_
                  refine g_isub 198 dM_twoDraws_197 rfl ?_
                  refine g_iload 200 dM_twoDraws_198 rfl rfl ?_
                  refine g_isub 201 dM_twoDraws_200 rfl ?_
                  refine g_iload 203 dM_twoDraws_201 rfl rfl ?_
                  refine g_iadd 204 dM_twoDraws_203 rfl ?_
                  refine g_i2l 205 dM_twoDraws_204 rfl ?_
                  refine g_lmul 206 dM_twoDraws_205 rfl ?_
                  refine g_lstore 208 [some (.ref v0), some (.int v1), some (.int v2), some (.int v3), some (.int v4), some (.int v5), some (.int v6), some (.long (v7 * ((((16 : Int32) - t8) - t9) + t9).toInt64)), none, some (.int v9), some (.int ((v1 >>> (v9 &&& 31)) &&& (1 : Int32))), some (.int ((v4 >>> (v9 &&& 31)) &&& (1 : Int32))), some (.int t8), some (.int t9), some (.int t8), some (.int t9), some (.int t9)] dM_twoDraws_206 rfl rfl (by decide) ?_
                  refine g_iinc 211 [some (.ref v0), some (.int v1), some (.int v2), some (.int v3), some (.int v4), some (.int v5), some (.int v6), some (.long (v7 * ((((16 : Int32) - t8) - t9) + t9).toInt64)), none, some (.int (v9 + (1 : Int32))), some (.int ((v1 >>> (v9 &&& 31)) &&& (1 : Int32))), some (.int ((v4 >>> (v9 &&& 31)) &&& (1 : Int32))), some (.int t8), some (.int t9), some (.int t8), some (.int t9), some (.int t9)] dM_twoDraws_208 rfl rfl (x_inc (1 : Int32) (by decide)) rfl (by decide) ?_
                  refine g_goto 6 dM_twoDraws_211 (by decide) ?_
                  refine g_less [some (.ref v0), some (.int v1), some (.int v2), some (.int v3), some (.int v4), some (.int v5), some (.int v6), some (.long (v7 * ((((16 : Int32) - t8) - t9) + t9).toInt64)), none, some (.int (v9 + (1 : Int32))), none, none, none, none, none, none, none] ⟨rfl, rfl, rfl, rfl, rfl, rfl, rfl, rfl, rfl, trivial⟩ ?_
                  exact ih _ _ _ _ _ _ _ _ _ h
            · rw [if_neg c12] at h
              refine g_icmp_ge_f 143 148 dM_twoDraws_140 (by decide) rfl c12 ?_
              refine g_iload 145 dM_twoDraws_143 rfl rfl ?_
              refine g_goto 150 dM_twoDraws_145 (by decide) ?_
              refine g_istore 152 [some (.ref v0), some (.int v1), some (.int v2), some (.int v3), some (.int v4), some (.int v5), some (.int v6), some (.long v7), none, some (.int v9), some (.int ((v1 >>> (v9 &&& 31)) &&& (1 : Int32))), some (.int ((v4 >>> (v9 &&& 31)) &&& (1 : Int32))), some (.int t8), some (.int t9), some (.int t8), some (.int t9), some (.int t8)] dM_twoDraws_150 rfl rfl (by decide) ?_
              refine g_lload 154 dM_twoDraws_152 rfl rfl ?_
              refine g_iload 156 dM_twoDraws_154 rfl rfl ?_
              refine g_iconst 157 (1 : Int32) dM_twoDraws_156 rfl (by decide) ?_
              by_cases c16 : ((v1 >>> (v9 &&& 31)) &&& (1 : Int32)) = (1 : Int32)
              · rw [if_pos c16] at h
                refine g_icmp_ne_f 160 179 dM_twoDraws_157 (by decide) rfl c16 ?_
                refine g_iload 162 dM_twoDraws_160 rfl rfl ?_
                refine g_iconst 163 (1 : Int32) dM_twoDraws_162 rfl (by decide) ?_
                by_cases c17 : ((v4 >>> (v9 &&& 31)) &&& (1 : Int32)) = (1 : Int32)
                · rw [if_pos c17] at h
                  refine g_icmp_ne_f 166 171 dM_twoDraws_163 (by decide) rfl c17 ?_
                  refine g_iload 168 dM_twoDraws_166 rfl rfl ?_
                  refine g_goto 204 dM_twoDraws_168 (by decide) ?_
                  refine g_i2l 205 dM_twoDraws_204 rfl ?_
                  refine g_lmul 206 dM_twoDraws_205 rfl ?_
                  refine g_lstore 208 [some (.ref v0), some (.int v1), some (.int v2), some (.int v3), some (.int v4), some (.int v5), some (.int v6), some (.long (v7 * t8.toInt64)), none, some (.int v9), some (.int ((v1 >>> (v9 &&& 31)) &&& (1 : Int32))), some (.int ((v4 >>> (v9 &&& 31)) &&& (1 : Int32))), some (.int t8), some (.int t9), some (.int t8), some (.int t9), some (.int t8)] dM_twoDraws_206 rfl rfl (by decide) ?_
                  refine g_iinc 211 [some (.ref v0), some (.int v1), some (.int v2), some (.int v3), some (.int v4), some (.int v5), some (.int v6), some (.long (v7 * t8.toInt64)), none, some (.int (v9 + (1 : Int32))), some (.int ((v1 >>> (v9 &&& 31)) &&& (1 : Int32))), some (.int ((v4 >>> (v9 &&& 31)) &&& (1 : Int32))), some (.int t8), some (.int t9), some (.int t8), some (.int t9), some (.int t8)] dM_twoDraws_208 rfl rfl (x_inc (1 : Int32) (by decide)) rfl (by decide) ?_
                  refine g_goto 6 dM_twoDraws_211 (by decide) ?_
                  refine g_less [some (.ref v0), some (.int v1), some (.int v2), some (.int v3), some (.int v4), some (.int v5), some (.int v6), some (.long (v7 * t8.toInt64)), none, some (.int (v9 + (1 : Int32))), none, none, none, none, none, none, none] ⟨rfl, rfl, rfl, rfl, rfl, rfl, rfl, rfl, rfl, trivial⟩ ?_
                  exact ih _ _ _ _ _ _ _ _ _ h
                · rw [if_neg c17] at h
                  refine g_icmp_ne_t 171 dM_twoDraws_163 (by decide) c17 ?_
                  refine g_iload 173 dM_twoDraws_171 rfl rfl ?_
                  refine g_iload 175 dM_twoDraws_173 rfl rfl ?_
                  refine g_isub 176 dM_twoDraws_175 rfl ?_
                  refine g_goto 204 dM_twoDraws_176 (by decide) ?_
                  refine g_i2l 205 dM_twoDraws_204 rfl ?_
                  refine g_lmul 206 dM_twoDraws_205 rfl ?_
                  refine g_lstore 208 [some (.ref v0), some (.int v1), some (.int v2), some (.int v3), some (.int v4), some (.int v5), some (.int v6), some (.long (v7 * (t8 - t8).toInt64)), none, some (.int v9), some (.int ((v1 >>> (v9 &&& 31)) &&& (1 : Int32))), some (.int ((v4 >>> (v9 &&& 31)) &&& (1 : Int32))), some (.int t8), some (.int t9), some (.int t8), some (.int t9), some (.int t8)] dM_twoDraws_206 rfl rfl (by decide) ?_
                  refine g_iinc 211 [some (.ref v0), some (.int v1), some (.int v2), some (.int v3), some (.int v4), some (.int v5), some (.int v6), some (.long (v7 * (t8 - t8).toInt64)), none, some (.int (v9 + (1 : Int32))), some (.int ((v1 >>> (v9 &&& 31)) &&& (1 : Int32))), some (.int ((v4 >>> (v9 &&& 31)) &&& (1 : Int32))), some (.int t8), some (.int t9), some (.int t8), some (.int t9), some (.int t8)] dM_twoDraws_208 rfl rfl (x_inc (1 : Int32) (by decide)) rfl (by decide) ?_
                  refine g_goto 6 dM_twoDraws_211 (by decide) ?_
                  refine g_less [some (.ref v0), some (.int v1), some (.int v2), some (.int v3), some (.int v4), some (.int v5), some (.int v6), some (.long (v7 * (t8 - t8).toInt64)), none, some (.int (v9 + (1 : Int32))), none, none, none, none, none, none, none] ⟨rfl, rfl, rfl, rfl, rfl, rfl, rfl, rfl, rfl, trivial⟩ ?_
                  exact ih _ _ _ _ _ _ _ _ _ h
              · rw [if_neg c16] at h
                refine g_icmp_ne_t 179 dM_twoDraws_157 (by decide) c16 ?_
                refine g_iload 181 dM_twoDraws_179 rfl rfl ?_
                refine g_iconst 182 (1 : Int32) dM_twoDraws_181 rfl (by decide) ?_
                by_cases c18 : ((v4 >>> (v9 &&& 31)) &&& (1 : Int32)) = (1 : Int32)
                · rw [if_pos c18] at h
                  refine g_icmp_ne_f 185 193 dM_twoDraws_182 (by decide) rfl c18 ?_
                  refine g_iload 187 dM_twoDraws_185 rfl rfl ?_
                  refine g_iload 189 dM_twoDraws_187 rfl rfl ?_
                  refine g_isub 190 dM_twoDraws_189 rfl ?_
                  refine g_goto 204 dM_twoDraws_190 (by decide) ?_
                  refine g_i2l 205 dM_twoDraws_204 rfl ?_
                  refine g_lmul 206 dM_twoDraws_205 rfl ?_
                  refine g_lstore 208 [some (.ref v0), some (.int v1), some (.int v2), some (.int v3), some (.int v4), some (.int v5), some (.int v6), some (.long (v7 * (t9 - t8).toInt64)), none, some (.int v9), some (.int ((v1 >>> (v9 &&& 31)) &&& (1 : Int32))), some (.int ((v4 >>> (v9 &&& 31)) &&& (1 : Int32))), some (.int t8), some (.int t9), some (.int t8), some (.int t9), some (.int t8)] dM_twoDraws_206 rfl rfl (by decide) ?_
                  refine g_iinc 211 [some (.ref v0), some (.int v1), some (.int v2), some (.int v3), some (.int v4), some (.int v5), some (.int v6), some (.long (v7 * (t9 - t8).toInt64)), none, some (.int (v9 + (1 : Int32))), some (.int ((v1 >>> (v9 &&& 31)) &&& (1 : Int32))), some (.int ((v4 >>> (v9 &&& 31)) &&& (1 : Int32))), some (.int t8), some (.int t9), some (.int t8), some (.int t9), some (.int t8)] dM_twoDraws_208 rfl rfl (x_inc (1 : Int32) (by decide)) rfl (by decide) ?_
                  refine g_goto 6 dM_twoDraws_211 (by decide) ?_
                  refine g_less [some (.ref v0), some (.int v1), some (.int v2), some (.int v3), some (.int v4), some (.int v5), some (.int v6), some (.long (v7 * (t9 - t8).toInt64)), none, some (.int (v9 + (1 : Int32))), none, none, none, none, none, none, none] ⟨rfl, rfl, rfl, rfl, rfl, rfl, rfl, rfl, rfl, trivial⟩ ?_
                  exact ih _ _ _ _ _ _ _ _ _ h
                · rw [if_neg c18] at h
                  refine g_icmp_ne_t 193 dM_twoDraws_182 (by decide) c18 ?_
                  refine g_bipush 195 (16 : Int32) dM_twoDraws_193 rfl (by decide) ?_
                  refine g_iload 197 dM_twoDraws_195 rfl rfl ?_
                  refine g_isub 198 dM_twoDraws_197 rfl ?_
                  refine g_iload 200 dM_twoDraws_198 rfl rfl ?_
                  refine g_isub 201 dM_twoDraws_200 rfl ?_
                  refine g_iload 203 dM_twoDraws_201 rfl rfl ?_
                  refine g_iadd 204 dM_twoDraws_203 rfl ?_
                  refine g_i2l 205 dM_twoDraws_204 rfl ?_
                  refine g_lmul 206 dM_twoDraws_205 rfl ?_
                  refine g_lstore 208 [some (.ref v0), some (.int v1), some (.int v2), some (.int v3), some (.int v4), some (.int v5), some (.int v6), some (.long (v7 * ((((16 : Int32) - t8) - t9) + t8).toInt64)), none, some (.int v9), some (.int ((v1 >>> (v9 &&& 31)) &&& (1 : Int32))), some (.int ((v4 >>> (v9 &&& 31)) &&& (1 : Int32))), some (.int t8), some (.int t9), some (.int t8), some (.int t9), some (.int t8)] dM_twoDraws_206 rfl rfl (by decide) ?_
                  refine g_iinc 211 [some (.ref v0), some (.int v1), some (.int v2), some (.int v3), some (.int v4), some (.int v5), some (.int v6), some (.long (v7 * ((((16 : Int32) - t8) - t9) + t8).toInt64)), none, some (.int (v9 + (1 : Int32))), some (.int ((v1 >>> (v9 &&& 31)) &&& (1 : Int32))), some (.int ((v4 >>> (v9 &&& 31)) &&& (1 : Int32))), some (.int t8), some (.int t9), some (.int t8), some (.int t9), some (.int t8)] dM_twoDraws_208 rfl rfl (x_inc (1 : Int32) (by decide)) rfl (by decide) ?_
                  refine g_goto 6 dM_twoDraws_211 (by decide) ?_
                  refine g_less [some (.ref v0), some (.int v1), some (.int v2), some (.int v3), some (.int v4), some (.int v5), some (.int v6), some (.long (v7 * ((((16 : Int32) - t8) - t9) + t8).toInt64)), none, some (.int (v9 + (1 : Int32))), none, none, none, none, none, none, none] ⟨rfl, rfl, rfl, rfl, rfl, rfl, rfl, rfl, rfl, trivial⟩ ?_
                  exact ih _ _ _ _ _ _ _ _ _ h
          · rw [if_neg c11] at h
            refine g_if_eq_f 119 132 dM_twoDraws_116 (by decide) rfl c11 ?_
            refine g_iload 121 dM_twoDraws_119 rfl rfl ?_
            refine g_iload 123 dM_twoDraws_121 rfl rfl ?_
            refine g_ishr 124 dM_twoDraws_123 rfl ?_
            refine g_iconst 125 (1 : Int32) dM_twoDraws_124 rfl (by decide) ?_
            refine g_iand 126 dM_twoDraws_125 rfl ?_
            refine g_bipush 128 (16 : Int32) dM_twoDraws_126 rfl (by decide) ?_
            refine g_imul 129 dM_twoDraws_128 rfl ?_
            refine g_goto 134 dM_twoDraws_129 (by decide) ?_
            refine g_istore 136 [some (.ref v0), some (.int v1), some (.int v2), some (.int v3), some (.int v4), some (.int v5), some (.int v6), some (.long v7), none, some (.int v9), some (.int ((v1 >>> (v9 &&& 31)) &&& (1 : Int32))), some (.int ((v4 >>> (v9 &&& 31)) &&& (1 : Int32))), some (.int t8), some (.int t9), some (.int t8), some (.int (((v6 >>> (v9 &&& 31)) &&& (1 : Int32)) * (16 : Int32))), none] dM_twoDraws_134 rfl rfl (by decide) ?_
            refine g_iload 138 dM_twoDraws_136 rfl rfl ?_
            refine g_iload 140 dM_twoDraws_138 rfl rfl ?_
            by_cases c19 : (((v6 >>> (v9 &&& 31)) &&& (1 : Int32)) * (16 : Int32)) ≤ t8
            · rw [if_pos c19] at h
              refine g_icmp_ge_t 148 dM_twoDraws_140 (by decide) c19 ?_
              refine g_iload 150 dM_twoDraws_148 rfl rfl ?_
              refine g_istore 152 [some (.ref v0), some (.int v1), some (.int v2), some (.int v3), some (.int v4), some (.int v5), some (.int v6), some (.long v7), none, some (.int v9), some (.int ((v1 >>> (v9 &&& 31)) &&& (1 : Int32))), some (.int ((v4 >>> (v9 &&& 31)) &&& (1 : Int32))), some (.int t8), some (.int t9), some (.int t8), some (.int (((v6 >>> (v9 &&& 31)) &&& (1 : Int32)) * (16 : Int32))), some (.int (((v6 >>> (v9 &&& 31)) &&& (1 : Int32)) * (16 : Int32)))] dM_twoDraws_150 rfl rfl (by decide) ?_
              refine g_lload 154 dM_twoDraws_152 rfl rfl ?_
              refine g_iload 156 dM_twoDraws_154 rfl rfl ?_
              refine g_iconst 157 (1 : Int32) dM_twoDraws_156 rfl (by decide) ?_
              by_cases c20 : ((v1 >>> (v9 &&& 31)) &&& (1 : Int32)) = (1 : Int32)
              · rw [if_pos c20] at h
                refine g_icmp_ne_f 160 179 dM_twoDraws_157 (by decide) rfl c20 ?_
                refine g_iload 162 dM_twoDraws_160 rfl rfl ?_
                refine g_iconst 163 (1 : Int32) dM_twoDraws_162 rfl (by decide) ?_
                by_cases c21 : ((v4 >>> (v9 &&& 31)) &&& (1 : Int32)) = (1 : Int32)
                · rw [if_pos c21] at h
                  refine g_icmp_ne_f 166 171 dM_twoDraws_163 (by decide) rfl c21 ?_
                  refine g_iload 168 dM_twoDraws_166 rfl rfl ?_
                  refine g_goto 204 dM_twoDraws_168 (by decide) ?_
                  refine g_i2l 205 dM_twoDraws_204 rfl ?_
                  refine g_lmul 206 dM_twoDraws_205 rfl ?_
                  refine g_lstore 208 [some (.ref v0), some (.int v1), some (.int v2), some (.int v3), some (.int v4), some (.int v5), some (.int v6), some (.long (v7 * (((v6 >>> (v9 &&& 31)) &&& (1 : Int32)) * (16 : Int32)).toInt64)), none, some (.int v9), some (.int ((v1 >>> (v9 &&& 31)) &&& (1 : Int32))), some (.int ((v4 >>> (v9 &&& 31)) &&& (1 : Int32))), some (.int t8), some (.int t9), some (.int t8), some (.int (((v6 >>> (v9 &&& 31)) &&& (1 : Int32)) * (16 : Int32))), some (.int (((v6 >>> (v9 &&& 31)) &&& (1 : Int32)) * (16 : Int32)))] dM_twoDraws_206 rfl rfl (by decide) ?_
                  refine g_iinc 211 [some (.ref v0), some (.int v1), some (.int v2), some (.int v3), some (.int v4), some (.int v5), some (.int v6), some (.long (v7 * (((v6 >>> (v9 &&& 31)) &&& (1 : Int32)) * (16 : Int32)).toInt64)), none, some (.int (v9 + (1 : Int32))), some (.int ((v1 >>> (v9 &&& 31)) &&& (1 : Int32))), some (.int ((v4 >>> (v9 &&& 31)) &&& (1 : Int32))), some (.int t8), some (.int t9), some (.int t8), some (.int (((v6 >>> (v9 &&& 31)) &&& (1 : Int32)) * (16 : Int32))), some (.int (((v6 >>> (v9 &&& 31)) &&& (1 : Int32)) * (16 : Int32)))] dM_twoDraws_208 rfl rfl (x_inc (1 : Int32) (by decide)) rfl (by decide) ?_
                  refine g_goto 6 dM_twoDraws_211 (by decide) ?_
                  refine g_less [some (.ref v0), some (.int v1), some (.int v2), some (.int v3), some (.int v4), some (.int v5), some (.int v6), some (.long (v7 * (((v6 >>> (v9 &&& 31)) &&& (1 : Int32)) * (16 : Int32)).toInt64)), none, some (.int (v9 + (1 : Int32))), none, none, none, none, none, none, none] ⟨rfl, rfl, rfl, rfl, rfl, rfl, rfl, rfl, rfl, trivial⟩ ?_
                  exact ih _ _ _ _ _ _ _ _ _ h
                · rw [if_neg c21] at h
                  refine g_icmp_ne_t 171 dM_twoDraws_163 (by decide) c21 ?_
                  refine g_iload 173 dM_twoDraws_171 rfl rfl ?_
                  refine g_iload 175 dM_twoDraws_173 rfl rfl ?_
                  refine g_isub 176 dM_twoDraws_175 rfl ?_
                  refine g_goto 204 dM_twoDraws_176 (by decide) ?_
                  refine g_i2l 205 dM_twoDraws_204 rfl ?_
                  refine g_lmul 206 dM_twoDraws_205 rfl ?_
                  refine g_lstore 208 [some (.ref v0), some (.int v1), some (.int v2), some (.int v3), some (.int v4), some (.int v5), some (.int v6), some (.long (v7 * (t8 - (((v6 >>> (v9 &&& 31)) &&& (1 : Int32)) * (16 : Int32))).toInt64)), none, some (.int v9), some (.int ((v1 >>> (v9 &&& 31)) &&& (1 : Int32))), some (.int ((v4 >>> (v9 &&& 31)) &&& (1 : Int32))), some (.int t8), some (.int t9), some (.int t8), some (.int (((v6 >>> (v9 &&& 31)) &&& (1 : Int32)) * (16 : Int32))), some (.int (((v6 >>> (v9 &&& 31)) &&& (1 : Int32)) * (16 : Int32)))] dM_twoDraws_206 rfl rfl (by decide) ?_
                  refine g_iinc 211 [some (.ref v0), some (.int v1), some (.int v2), some (.int v3), some (.int v4), some (.int v5), some (.int v6), some (.long (v7 * (t8 - (((v6 >>> (v9 &&& 31)) &&& (1 : Int32)) * (16 : Int32))).toInt64)), none, some (.int (v9 + (1 : Int32))), some (.int ((v1 >>> (v9 &&& 31)) &&& (1 : Int32))), some (.int ((v4 >>> (v9 &&& 31)) &&& (1 : Int32))), some (.int t8), some (.int t9), some (.int t8), some (.int (((v6 >>> (v9 &&& 31)) &&& (1 : Int32)) * (16 : Int32))), some (.int (((v6 >>> (v9 &&& 31)) &&& (1 : Int32)) * (16 : Int32)))] dM_twoDraws_208 rfl rfl (x_inc (1 : Int32) (by decide)) rfl (by decide) ?_
                  refine g_goto 6 dM_twoDraws_211 (by decide) ?_
                  refine g_less [some (.ref v0), some (.int v1), some (.int v2), some (.int v3), some (.int v4), some (.int v5), some (.int v6), some (.long (v7 * (t8 - (((v6 >>> (v9 &&& 31)) &&& (1 : Int32)) * (16 : Int32))).toInt64)), none, some (.int (v9 + (1 : Int32))), none, none, none, none, none, none, none] ⟨rfl, rfl, rfl, rfl, rfl, rfl, rfl, rfl, rfl, trivial⟩ ?_
                  exact ih _ _ _ _ _ _ _ _ _ h
              · rw [if_neg c20] at h
                refine g_icmp_ne_t 179 dM_twoDraws_157 (by decide) c20 ?_
                refine g_iload 181 dM_twoDraws_179 rfl rfl ?_
                refine g_iconst 182 (1 : Int32) dM_twoDraws_181 rfl (by decide) ?_
                by_cases c22 : ((v4 >>> (v9 &&& 31)) &&& (1 : Int32)) = (1 : Int32)
                · rw [if_pos c22] at h
                  refine g_icmp_ne_f 185 193 dM_twoDraws_182 (by decide) rfl c22 ?_
                  refine g_iload 187 dM_twoDraws_185 rfl rfl ?_
                  refine g_iload 189 dM_twoDraws_187 rfl rfl ?_
                  refine g_isub 190 dM_twoDraws_189 rfl ?_
                  refine g_goto 204 dM_twoDraws_190 (by decide) ?_
                  refine g_i2l 205 dM_twoDraws_204 rfl ?_
                  refine g_lmul 206 dM_twoDraws_205 rfl ?_
                  refine g_lstore 208 [some (.ref v0), some (.int v1), some (.int v2), some (.int v3), some (.int v4), some (.int v5), some (.int v6), some (.long (v7 * ((((v6 >>> (v9 &&& 31)) &&& (1 : Int32)) * (16 : Int32)) - (((v6 >>> (v9 &&& 31)) &&& (1 : Int32)) * (16 : Int32))).toInt64)), none, some (.int v9), some (.int ((v1 >>> (v9 &&& 31)) &&& (1 : Int32))), some (.int ((v4 >>> (v9 &&& 31)) &&& (1 : Int32))), some (.int t8), some (.int t9), some (.int t8), some (.int (((v6 >>> (v9 &&& 31)) &&& (1 : Int32)) * (16 : Int32))), some (.int (((v6 >>> (v9 &&& 31)) &&& (1 : Int32)) * (16 : Int32)))] dM_twoDraws_206 rfl rfl (by decide) ?_
                  refine g_iinc 211 [some (.ref v0), some (.int v1), some (.int v2), some (.int v3), some (.int v4), some (.int v5), some (.int v6), some (.long (v7 * ((((v6 >>> (v9 &&& 31)) &&& (1 : Int32)) * (16 : Int32)) - (((v6 >>> (v9 &&& 31)) &&& (1 : Int32)) * (16 : Int32))).toInt64)), none, some (.int (v9 + (1 : Int32))), some (.int ((v1 >>> (v9 &&& 31)) &&& (1 : Int32))), some (.int ((v4 >>> (v9 &&& 31)) &&& (1 : Int32))), some (.int t8), some (.int t9), some (.int t8), some (.int (((v6 >>> (v9 &&& 31)) &&& (1 : Int32)) * (16 : Int32))), some (.int (((v6 >>> (v9 &&& 31)) &&& (1 : Int32)) * (16 : Int32)))] dM_twoDraws_208 rfl rfl (x_inc (1 : Int32) (by decide)) rfl (by decide) ?_
                  refine g_goto 6 dM_twoDraws_211 (by decide) ?_
                  refine g_less [some (.ref v0), some (.int v1), some (.int v2), some (.int v3), some (.int v4), some (.int v5), some (.int v6), some (.long (v7 * ((((v6 >>> (v9 &&& 31)) &&& (1 : Int32)) * (16 : Int32)) - (((v6 >>> (v9 &&& 31)) &&& (1 : Int32)) * (16 : Int32))).toInt64)), none, some (.int (v9 + (1 : Int32))), none, none, none, none, none, none, none] ⟨rfl, rfl, rfl, rfl, rfl, rfl, rfl, rfl, rfl, trivial⟩ ?_
                  exact ih _ _ _ _ _ _ _ _ _ h
                · rw [if_neg c22] at h
                  refine g_icmp_ne_t 193 dM_twoDraws_182 (by decide) c22 ?_
                  refine g_bipush 195 (16 : Int32) dM_twoDraws_193 rfl (by decide) ?_
                  refine g_iload 197 dM_twoDraws_195 rfl rfl ?_
                  refine g_isub 198 dM_twoDraws_197 rfl ?_
                  refine g_iload 200 dM_twoDraws_198 rfl rfl ?_
                  refine g_isub 201 dM_twoDraws_200 rfl ?_
                  refine g_iload 203 dM_twoDraws_201 rfl rfl ?_
                  refine g_iadd 204 dM_twoDraws_203 rfl ?_
                  refine g_i2l 205 dM_twoDraws_204 rfl ?_
                  refine g_lmul 206 dM_twoDraws_205 rfl ?_
                  refine g_lstore 208 [some (.ref v0), some (.int v1), some (.int v2), some (.int v3), some (.int v4), some (.int v5), some (.int v6), some (.long (v7 * ((((16 : Int32) - t8) - (((v6 >>> (v9 &&& 31)) &&& (1 : Int32)) * (16 : Int32))) + (((v6 >>> (v9 &&& 31)) &&& (1 : Int32)) * (16 : Int32))).toInt64)), none, some (.int v9), some (.int ((v1 >>> (v9 &&& 31)) &&& (1 : Int32))), some (.int ((v4 >>> (v9 &&& 31)) &&& (1 : Int32))), some (.int t8), some (.int t9), some (.int t8), some (.int (((v6 >>> (v9 &&& 31)) &&& (1 : Int32)) * (16 : Int32))), some (.int (((v6 >>> (v9 &&& 31)) &&& (1 : Int32)) * (16 : Int32)))] dM_twoDraws_206 rfl rfl (by decide) ?_
                  refine g_iinc 211 [some (.ref v0), some (.int v1), some (.int v2), some (.int v3), some (.int v4), some (.int v5), some (.int v6), some (.long (v7 * ((((16 : Int32) - t8) - (((v6 >>> (v9 &&& 31)) &&& (1 : Int32)) * (16 : Int32))) + (((v6 >>> (v9 &&& 31)) &&& (1 : Int32)) * (16 : Int32))).toInt64)), none, some (.int (v9 + (1 : Int32))), some (.int ((v1 >>> (v9 &&& 31)) &&& (1 : Int32))), some (.int ((v4 >>> (v9 &&& 31)) &&& (1 : Int32))), some (.int t8), some (.int t9), some (.int t8), some (.int (((v6 >>> (v9 &&& 31)) &&& (1 : Int32)) * (16 : Int32))), some (.int (((v6 >>> (v9 &&& 31)) &&& (1 : Int32)) * (16 : Int32)))] dM_twoDraws_208 rfl rfl (x_inc (1 : Int32) (by decide)) rfl (by decide) ?_
                  refine g_goto 6 dM_twoDraws_211 (by decide) ?_
                  refine g_less [some (.ref v0), some (.int v1), some (.int v2), some (.int v3), some (.int v4), some (.int v5), some (.int v6), some (.long (v7 * ((((16 : Int32) - t8) - (((v6 >>> (v9 &&& 31)) &&& (1 : Int32)) * (16 : Int32))) + (((v6 >>> (v9 &&& 31)) &&& (1 : Int32)) * (16 : Int32))).toInt64)), none, some (.int (v9 + (1 : Int32))), none, none, none, none, none, none, none] ⟨rfl, rfl, rfl, rfl, rfl, rfl, rfl, rfl, rfl, trivial⟩ ?_
                  exact ih _ _ _ _ _ _ _ _ _ h
            · rw [if_neg c19] at h
              refine g_icmp_ge_f 143 148 dM_twoDraws_140 (by decide) rfl c19 ?_
              refine g_iload 145 dM_twoDraws_143 rfl rfl ?_
              refine g_goto 150 dM_twoDraws_145 (by decide) ?_
              refine g_istore 152 [some (.ref v0), some (.int v1), some (.int v2), some (.int v3), some (.int v4), some (.int v5), some (.int v6), some (.long v7), none, some (.int v9), some (.int ((v1 >>> (v9 &&& 31)) &&& (1 : Int32))), some (.int ((v4 >>> (v9 &&& 31)) &&& (1 : Int32))), some (.int t8), some (.int t9), some (.int t8), some (.int (((v6 >>> (v9 &&& 31)) &&& (1 : Int32)) * (16 : Int32))), some (.int t8)] dM_twoDraws_150 rfl rfl (by decide) ?_
              refine g_lload 154 dM_twoDraws_152 rfl rfl ?_
              refine g_iload 156 dM_twoDraws_154 rfl rfl ?_
              refine g_iconst 157 (1 : Int32) dM_twoDraws_156 rfl (by decide) ?_
              by_cases c23 : ((v1 >>> (v9 &&& 31)) &&& (1 : Int32)) = (1 : Int32)
              · rw [if_pos c23] at h
                refine g_icmp_ne_f 160 179 dM_twoDraws_157 (by decide) rfl c23 ?_
                refine g_iload 162 dM_twoDraws_160 rfl rfl ?_
                refine g_iconst 163 (1 : Int32) dM_twoDraws_162 rfl (by decide) ?_
                by_cases c24 : ((v4 >>> (v9 &&& 31)) &&& (1 : Int32)) = (1 : Int32)
                · rw [if_pos c24] at h
                  refine g_icmp_ne_f 166 171 dM_twoDraws_163 (by decide) rfl c24 ?_
                  refine g_iload 168 dM_twoDraws_166 rfl rfl ?_
                  refine g_goto 204 dM_twoDraws_168 (by decide) ?_
                  refine g_i2l 205 dM_twoDraws_204 rfl ?_
                  refine g_lmul 206 dM_twoDraws_205 rfl ?_
                  refine g_lstore 208 [some (.ref v0), some (.int v1), some (.int v2), some (.int v3), some (.int v4), some (.int v5), some (.int v6), some (.long (v7 * t8.toInt64)), none, some (.int v9), some (.int ((v1 >>> (v9 &&& 31)) &&& (1 : Int32))), some (.int ((v4 >>> (v9 &&& 31)) &&& (1 : Int32))), some (.int t8), some (.int t9), some (.int t8), some (.int (((v6 >>> (v9 &&& 31)) &&& (1 : Int32)) * (16 : Int32))), some (.int t8)] dM_twoDraws_206 rfl rfl (by decide) ?_
                  refine g_iinc 211 [some (.ref v0), some (.int v1), some (.int v2), some (.int v3), some (.int v4), some (.int v5), some (.int v6), some (.long (v7 * t8.toInt64)), none, some (.int (v9 + (1 : Int32))), some (.int ((v1 >>> (v9 &&& 31)) &&& (1 : Int32))), some (.int ((v4 >>> (v9 &&& 31)) &&& (1 : Int32))), some (.int t8), some (.int t9), some (.int t8), some (.int (((v6 >>> (v9 &&& 31)) &&& (1 : Int32)) * (16 : Int32))), some (.int t8)] dM_twoDraws_208 rfl rfl (x_inc (1 : Int32) (by decide)) rfl (by decide) ?_
                  refine g_goto 6 dM_twoDraws_211 (by decide) ?_
                  refine g_less [some (.ref v0), some (.int v1), some (.int v2), some (.int v3), some (.int v4), some (.int v5), some (.int v6), some (.long (v7 * t8.toInt64)), none, some (.int (v9 + (1 : Int32))), none, none, none, none, none, none, none] ⟨rfl, rfl, rfl, rfl, rfl, rfl, rfl, rfl, rfl, trivial⟩ ?_
                  exact ih _ _ _ _ _ _ _ _ _ h
                · rw [if_neg c24] at h
                  refine g_icmp_ne_t 171 dM_twoDraws_163 (by decide) c24 ?_
                  refine g_iload 173 dM_twoDraws_171 rfl rfl ?_
                  refine g_iload 175 dM_twoDraws_173 rfl rfl ?_
                  refine g_isub 176 dM_twoDraws_175 rfl ?_
                  refine g_goto 204 dM_twoDraws_176 (by decide) ?_
                  refine g_i2l 205 dM_twoDraws_204 rfl ?_
                  refine g_lmul 206 dM_twoDraws_205 rfl ?_
                  refine g_lstore 208 [some (.ref v0), some (.int v1), some (.int v2), some (.int v3), some (.int v4), some (.int v5), some (.int v6), some (.long (v7 * (t8 - t8).toInt64)), none, some (.int v9), some (.int ((v1 >>> (v9 &&& 31)) &&& (1 : Int32))), some (.int ((v4 >>> (v9 &&& 31)) &&& (1 : Int32))), some (.int t8), some (.int t9), some (.int t8), some (.int (((v6 >>> (v9 &&& 31)) &&& (1 : Int32)) * (16 : Int32))), some (.int t8)] dM_twoDraws_206 rfl rfl (by decide) ?_
                  refine g_iinc 211 [some (.ref v0), some (.int v1), some (.int v2), some (.int v3), some (.int v4), some (.int v5), some (.int v6), some (.long (v7 * (t8 - t8).toInt64)), none, some (.int (v9 + (1 : Int32))), some (.int ((v1 >>> (v9 &&& 31)) &&& (1 : Int32))), some (.int ((v4 >>> (v9 &&& 31)) &&& (1 : Int32))), some (.int t8), some (.int t9), some (.int t8), some (.int (((v6 >>> (v9 &&& 31)) &&& (1 : Int32)) * (16 : Int32))), some (.int t8)] dM_twoDraws_208 rfl rfl (x_inc (1 : Int32) (by decide)) rfl (by decide) ?_
                  refine g_goto 6 dM_twoDraws_211 (by decide) ?_
                  refine g_less [some (.ref v0), some (.int v1), some (.int v2), some (.int v3), some (.int v4), some (.int v5), some (.int v6), some (.long (v7 * (t8 - t8).toInt64)), none, some (.int (v9 + (1 : Int32))), none, none, none, none, none, none, none] ⟨rfl, rfl, rfl, rfl, rfl, rfl, rfl, rfl, rfl, trivial⟩ ?_
                  exact ih _ _ _ _ _ _ _ _ _ h
              · rw [if_neg c23] at h
                refine g_icmp_ne_t 179 dM_twoDraws_157 (by decide) c23 ?_
                refine g_iload 181 dM_twoDraws_179 rfl rfl ?_
                refine g_iconst 182 (1 : Int32) dM_twoDraws_181 rfl (by decide) ?_
                by_cases c25 : ((v4 >>> (v9 &&& 31)) &&& (1 : Int32)) = (1 : Int32)
                · rw [if_pos c25] at h
                  refine g_icmp_ne_f 185 193 dM_twoDraws_182 (by decide) rfl c25 ?_
                  refine g_iload 187 dM_twoDraws_185 rfl rfl ?_
                  refine g_iload 189 dM_twoDraws_187 rfl rfl ?_
                  refine g_isub 190 dM_twoDraws_189 rfl ?_
                  refine g_goto 204 dM_twoDraws_190 (by decide) ?_
                  refine g_i2l 205 dM_twoDraws_204 rfl ?_
                  refine g_lmul 206 dM_twoDraws_205 rfl ?_
                  refine g_lstore 208 [some (.ref v0), some (.int v1), some (.int v2), some (.int v3), some (.int v4), some (.int v5), some (.int v6), some (.long (v7 * ((((v6 >>> (v9 &&& 31)) &&& (1 : Int32)) * (16 : Int32)) - t8).toInt64)), none, some (.int v9), some (.int ((v1 >>> (v9 &&& 31)) &&& (1 : Int32))), some (.int ((v4 >>> (v9 &&& 31)) &&& (1 : Int32))), some (.int t8), some (.int t9), some (.int t8), some (.int (((v6 >>> (v9 &&& 31)) &&& (1 : Int32)) * (16 : Int32))), some (.int t8)] dM_twoDraws_206 rfl rfl (by decide) ?_
                  refine g_iinc 211 [some (.ref v0), some (.int v1), some (.int v2), some (.int v3), some (.int v4), some (.int v5), some (.int v6), some (.long (v7 * ((((v6 >>> (v9 &&& 31)) &&& (1 : Int32)) * (16 : Int32)) - t8).toInt64)), none, some (.int (v9 + (1 : Int32))), some (.int ((v1 >>> (v9 &&& 31)) &&& (1 : Int32))), some (.int ((v4 >>> (v9 &&& 31)) &&& (1 : Int32))), some (.int t8), some (.int t9), some (.int t8), some (.int (((v6 >>> (v9 &&& 31)) &&& (1 : Int32)) * (16 : Int32))), some (.int t8)] dM_twoDraws_208 rfl rfl (x_inc (1 : Int32) (by decide)) rfl (by decide) ?_
                  refine g_goto 6 dM_twoDraws_211 (by decide) ?_
                  refine g_less [some (.ref v0), some (.int v1), some (.int v2), some (.int v3), some (.int v4), some (.int v5), some (.int v6), some (.long (v7 * ((((v6 >>> (v9 &&& 31)) &&& (1 : Int32)) * (16 : Int32)) - t8).toInt64)), none, some (.int (v9 + (1 : Int32))), none, none, none, none, none, none, none] ⟨rfl, rfl, rfl, rfl, rfl, rfl, rfl, rfl, rfl, trivial⟩ ?_
                  exact ih _ _ _ _ _ _ _ _ _ h
                · rw [if_neg c25] at h
                  refine g_icmp_ne_t 193 dM_twoDraws_182 (by decide) c25 ?_
                  refine g_bipush 195 (16 : Int32) dM_twoDraws_193 rfl (by decide) ?_
                  refine g_iload 197 dM_twoDraws_195 rfl rfl ?_
                  refine g_isub 198 dM_twoDraws_197 rfl ?_
                  refine g_iload 200 dM_twoDraws_198 rfl rfl ?_
                  refine g_isub 201 dM_twoDraws_200 rfl ?_
                  refine g_iload 203 dM_twoDraws_201 rfl rfl ?_
                  refine g_iadd 204 dM_twoDraws_203 rfl ?_
                  refine g_i2l 205 dM_twoDraws_204 rfl ?_
                  refine g_lmul 206 dM_twoDraws_205 rfl ?_
                  refine g_lstore 208 [some (.ref v0), some (.int v1), some (.int v2), some (.int v3), some (.int v4), some (.int v5), some (.int v6), some (.long (v7 * ((((16 : Int32) - t8) - (((v6 >>> (v9 &&& 31)) &&& (1 : Int32)) * (16 : Int32))) + t8).toInt64)), none, some (.int v9), some (.int ((v1 >>> (v9 &&& 31)) &&& (1 : Int32))), some (.int ((v4 >>> (v9 &&& 31)) &&& (1 : Int32))), some (.int t8), some (.int t9), some (.int t8), some (.int (((v6 >>> (v9 &&& 31)) &&& (1 : Int32)) * (16 : Int32))), some (.int t8)] dM_twoDraws_206 rfl rfl (by decide) ?_
                  refine g_iinc 211 [some (.ref v0), some (.int v1), some (.int v2), some (.int v3), some (.int v4), some (.int v5), some (.int v6), some (.long (v7 * ((((16 : Int32) - t8) - (((v6 >>> (v9 &&& 31)) &&& (1 : Int32)) * (16 : Int32))) + t8).toInt64)), none, some (.int (v9 + (1 : Int32))), some (.int ((v1 >>> (v9 &&& 31)) &&& (1 : Int32))), some (.int ((v4 >>> (v9 &&& 31)) &&& (1 : Int32))), some (.int t8), some (.int t9), some (.int t8), some (.int (((v6 >>> (v9 &&& 31)) &&& (1 : Int32)) * (16 : Int32))), some (.int t8)] dM_twoDraws_208 rfl rfl (x_inc (1 : Int32) (by decide)) rfl (by decide) ?_
                  refine g_goto 6 dM_twoDraws_211 (by decide) ?_
                  refine g_less [some (.ref v0), some (.int v1), some (.int v2), some (.int v3), some (.int v4), some (.int v5), some (.int v6), some (.long (v7 * ((((16 : Int32) - t8) - (((v6 >>> (v9 &&& 31)) &&& (1 : Int32)) * (16 : Int32))) + t8).toInt64)), none, some (.int (v9 + (1 : Int32))), none, none, none, none, none, none, none] ⟨rfl, rfl, rfl, rfl, rfl, rfl, rfl, rfl, rfl, trivial⟩ ?_
                  exact ih _ _ _ _ _ _ _ _ _ h
        · rw [if_neg c10] at h
          refine g_if_eq_f 93 105 dM_twoDraws_90 (by decide) rfl c10 ?_
          refine g_iload_n 94 (i := 3) dM_twoDraws_93 rfl rfl rfl ?_
          refine g_iload 96 dM_twoDraws_94 rfl rfl ?_
          refine g_ishr 97 dM_twoDraws_96 rfl ?_
          refine g_iconst 98 (1 : Int32) dM_twoDraws_97 rfl (by decide) ?_
          refine g_iand 99 dM_twoDraws_98 rfl ?_
          refine g_bipush 101 (16 : Int32) dM_twoDraws_99 rfl (by decide) ?_
          refine g_imul 102 dM_twoDraws_101 rfl ?_
          refine g_goto 107 dM_twoDraws_102 (by decide) ?_
          refine g_istore 109 [some (.ref v0), some (.int v1), some (.int v2), some (.int v3), some (.int v4), some (.int v5), some (.int v6), some (.long v7), none, some (.int v9), some (.int ((v1 >>> (v9 &&& 31)) &&& (1 : Int32))), some (.int ((v4 >>> (v9 &&& 31)) &&& (1 : Int32))), some (.int t8), some (.int t9), some (.int (((v3 >>> (v9 &&& 31)) &&& (1 : Int32)) * (16 : Int32))), none, none] dM_twoDraws_107 rfl rfl (by decide) ?_
          refine g_iload 111 dM_twoDraws_109 rfl rfl ?_
          refine g_iload 113 dM_twoDraws_111 rfl rfl ?_
          refine g_cS 116 (some (.int (fM_has v5 v9))) w [.int v5, .int v9] [] dM_twoDraws_113 rfl (fun _ hK2 => mM_has (d - 1) (by omega) rfl hK2) kM_62 (x_rm (Nat.le_trans (by decide) hd) (by decide)) ⟨Nat.zero_le _, Nat.zero_le _⟩ (Nat.le_of_ble_eq_true rfl) rfl ?_
          by_cases c26 : (fM_has v5 v9) = (0 : Int32)
          · rw [if_pos c26] at h
            refine g_if_eq_t 132 dM_twoDraws_116 (by decide) c26 ?_
            refine g_iload 134 dM_twoDraws_132 rfl rfl ?_
            refine g_istore 136 [some (.ref v0), some (.int v1), some (.int v2), some (.int v3), some (.int v4), some (.int v5), some (.int v6), some (.long v7), none, some (.int v9), some (.int ((v1 >>> (v9 &&& 31)) &&& (1 : Int32))), some (.int ((v4 >>> (v9 &&& 31)) &&& (1 : Int32))), some (.int t8), some (.int t9), some (.int (((v3 >>> (v9 &&& 31)) &&& (1 : Int32)) * (16 : Int32))), some (.int t9), none] dM_twoDraws_134 rfl rfl (by decide) ?_
            refine g_iload 138 dM_twoDraws_136 rfl rfl ?_
            refine g_iload 140 dM_twoDraws_138 rfl rfl ?_
            by_cases c27 : t9 ≤ (((v3 >>> (v9 &&& 31)) &&& (1 : Int32)) * (16 : Int32))
            · rw [if_pos c27] at h
              refine g_icmp_ge_t 148 dM_twoDraws_140 (by decide) c27 ?_
              refine g_iload 150 dM_twoDraws_148 rfl rfl ?_
              refine g_istore 152 [some (.ref v0), some (.int v1), some (.int v2), some (.int v3), some (.int v4), some (.int v5), some (.int v6), some (.long v7), none, some (.int v9), some (.int ((v1 >>> (v9 &&& 31)) &&& (1 : Int32))), some (.int ((v4 >>> (v9 &&& 31)) &&& (1 : Int32))), some (.int t8), some (.int t9), some (.int (((v3 >>> (v9 &&& 31)) &&& (1 : Int32)) * (16 : Int32))), some (.int t9), some (.int t9)] dM_twoDraws_150 rfl rfl (by decide) ?_
              refine g_lload 154 dM_twoDraws_152 rfl rfl ?_
              refine g_iload 156 dM_twoDraws_154 rfl rfl ?_
              refine g_iconst 157 (1 : Int32) dM_twoDraws_156 rfl (by decide) ?_
              by_cases c28 : ((v1 >>> (v9 &&& 31)) &&& (1 : Int32)) = (1 : Int32)
              · rw [if_pos c28] at h
                refine g_icmp_ne_f 160 179 dM_twoDraws_157 (by decide) rfl c28 ?_
                refine g_iload 162 dM_twoDraws_160 rfl rfl ?_
                refine g_iconst 163 (1 : Int32) dM_twoDraws_162 rfl (by decide) ?_
                by_cases c29 : ((v4 >>> (v9 &&& 31)) &&& (1 : Int32)) = (1 : Int32)
                · rw [if_pos c29] at h
                  refine g_icmp_ne_f 166 171 dM_twoDraws_163 (by decide) rfl c29 ?_
                  refine g_iload 168 dM_twoDraws_166 rfl rfl ?_
                  refine g_goto 204 dM_twoDraws_168 (by decide) ?_
                  refine g_i2l 205 dM_twoDraws_204 rfl ?_
                  refine g_lmul 206 dM_twoDraws_205 rfl ?_
                  refine g_lstore 208 [some (.ref v0), some (.int v1), some (.int v2), some (.int v3), some (.int v4), some (.int v5), some (.int v6), some (.long (v7 * t9.toInt64)), none, some (.int v9), some (.int ((v1 >>> (v9 &&& 31)) &&& (1 : Int32))), some (.int ((v4 >>> (v9 &&& 31)) &&& (1 : Int32))), some (.int t8), some (.int t9), some (.int (((v3 >>> (v9 &&& 31)) &&& (1 : Int32)) * (16 : Int32))), some (.int t9), some (.int t9)] dM_twoDraws_206 rfl rfl (by decide) ?_
                  refine g_iinc 211 [some (.ref v0), some (.int v1), some (.int v2), some (.int v3), some (.int v4), some (.int v5), some (.int v6), some (.long (v7 * t9.toInt64)), none, some (.int (v9 + (1 : Int32))), some (.int ((v1 >>> (v9 &&& 31)) &&& (1 : Int32))), some (.int ((v4 >>> (v9 &&& 31)) &&& (1 : Int32))), some (.int t8), some (.int t9), some (.int (((v3 >>> (v9 &&& 31)) &&& (1 : Int32)) * (16 : Int32))), some (.int t9), some (.int t9)] dM_twoDraws_208 rfl rfl (x_inc (1 : Int32) (by decide)) rfl (by decide) ?_
                  refine g_goto 6 dM_twoDraws_211 (by decide) ?_
                  refine g_less [some (.ref v0), some (.int v1), some (.int v2), some (.int v3), some (.int v4), some (.int v5), some (.int v6), some (.long (v7 * t9.toInt64)), none, some (.int (v9 + (1 : Int32))), none, none, none, none, none, none, none] ⟨rfl, rfl, rfl, rfl, rfl, rfl, rfl, rfl, rfl, trivial⟩ ?_
                  exact ih _ _ _ _ _ _ _ _ _ h
                · rw [if_neg c29] at h
                  refine g_icmp_ne_t 171 dM_twoDraws_163 (by decide) c29 ?_
                  refine g_iload 173 dM_twoDraws_171 rfl rfl ?_
                  refine g_iload 175 dM_twoDraws_173 rfl rfl ?_
                  refine g_isub 176 dM_twoDraws_175 rfl ?_
                  refine g_goto 204 dM_twoDraws_176 (by decide) ?_
                  refine g_i2l 205 dM_twoDraws_204 rfl ?_
                  refine g_lmul 206 dM_twoDraws_205 rfl ?_
                  refine g_lstore 208 [some (.ref v0), some (.int v1), some (.int v2), some (.int v3), some (.int v4), some (.int v5), some (.int v6), some (.long (v7 * ((((v3 >>> (v9 &&& 31)) &&& (1 : Int32)) * (16 : Int32)) - t9).toInt64)), none, some (.int v9), some (.int ((v1 >>> (v9 &&& 31)) &&& (1 : Int32))), some (.int ((v4 >>> (v9 &&& 31)) &&& (1 : Int32))), some (.int t8), some (.int t9), some (.int (((v3 >>> (v9 &&& 31)) &&& (1 : Int32)) * (16 : Int32))), some (.int t9), some (.int t9)] dM_twoDraws_206 rfl rfl (by decide) ?_
                  refine g_iinc 211 [some (.ref v0), some (.int v1), some (.int v2), some (.int v3), some (.int v4), some (.int v5), some (.int v6), some (.long (v7 * ((((v3 >>> (v9 &&& 31)) &&& (1 : Int32)) * (16 : Int32)) - t9).toInt64)), none, some (.int (v9 + (1 : Int32))), some (.int ((v1 >>> (v9 &&& 31)) &&& (1 : Int32))), some (.int ((v4 >>> (v9 &&& 31)) &&& (1 : Int32))), some (.int t8), some (.int t9), some (.int (((v3 >>> (v9 &&& 31)) &&& (1 : Int32)) * (16 : Int32))), some (.int t9), some (.int t9)] dM_twoDraws_208 rfl rfl (x_inc (1 : Int32) (by decide)) rfl (by decide) ?_
                  refine g_goto 6 dM_twoDraws_211 (by decide) ?_
                  refine g_less [some (.ref v0), some (.int v1), some (.int v2), some (.int v3), some (.int v4), some (.int v5), some (.int v6), some (.long (v7 * ((((v3 >>> (v9 &&& 31)) &&& (1 : Int32)) * (16 : Int32)) - t9).toInt64)), none, some (.int (v9 + (1 : Int32))), none, none, none, none, none, none, none] ⟨rfl, rfl, rfl, rfl, rfl, rfl, rfl, rfl, rfl, trivial⟩ ?_
                  exact ih _ _ _ _ _ _ _ _ _ h
              · rw [if_neg c28] at h
                refine g_icmp_ne_t 179 dM_twoDraws_157 (by decide) c28 ?_
                refine g_iload 181 dM_twoDraws_179 rfl rfl ?_
                refine g_iconst 182 (1 : Int32) dM_twoDraws_181 rfl (by decide) ?_
                by_cases c30 : ((v4 >>> (v9 &&& 31)) &&& (1 : Int32)) = (1 : Int32)
                · rw [if_pos c30] at h
                  refine g_icmp_ne_f 185 193 dM_twoDraws_182 (by decide) rfl c30 ?_
                  refine g_iload 187 dM_twoDraws_185 rfl rfl ?_
                  refine g_iload 189 dM_twoDraws_187 rfl rfl ?_
                  refine g_isub 190 dM_twoDraws_189 rfl ?_
                  refine g_goto 204 dM_twoDraws_190 (by decide) ?_
                  refine g_i2l 205 dM_twoDraws_204 rfl ?_
                  refine g_lmul 206 dM_twoDraws_205 rfl ?_
                  refine g_lstore 208 [some (.ref v0), some (.int v1), some (.int v2), some (.int v3), some (.int v4), some (.int v5), some (.int v6), some (.long (v7 * (t9 - t9).toInt64)), none, some (.int v9), some (.int ((v1 >>> (v9 &&& 31)) &&& (1 : Int32))), some (.int ((v4 >>> (v9 &&& 31)) &&& (1 : Int32))), some (.int t8), some (.int t9), some (.int (((v3 >>> (v9 &&& 31)) &&& (1 : Int32)) * (16 : Int32))), some (.int t9), some (.int t9)] dM_twoDraws_206 rfl rfl (by decide) ?_
                  refine g_iinc 211 [some (.ref v0), some (.int v1), some (.int v2), some (.int v3), some (.int v4), some (.int v5), some (.int v6), some (.long (v7 * (t9 - t9).toInt64)), none, some (.int (v9 + (1 : Int32))), some (.int ((v1 >>> (v9 &&& 31)) &&& (1 : Int32))), some (.int ((v4 >>> (v9 &&& 31)) &&& (1 : Int32))), some (.int t8), some (.int t9), some (.int (((v3 >>> (v9 &&& 31)) &&& (1 : Int32)) * (16 : Int32))), some (.int t9), some (.int t9)] dM_twoDraws_208 rfl rfl (x_inc (1 : Int32) (by decide)) rfl (by decide) ?_
                  refine g_goto 6 dM_twoDraws_211 (by decide) ?_
                  refine g_less [some (.ref v0), some (.int v1), some (.int v2), some (.int v3), some (.int v4), some (.int v5), some (.int v6), some (.long (v7 * (t9 - t9).toInt64)), none, some (.int (v9 + (1 : Int32))), none, none, none, none, none, none, none] ⟨rfl, rfl, rfl, rfl, rfl, rfl, rfl, rfl, rfl, trivial⟩ ?_
                  exact ih _ _ _ _ _ _ _ _ _ h
                · rw [if_neg c30] at h
                  refine g_icmp_ne_t 193 dM_twoDraws_182 (by decide) c30 ?_
                  refine g_bipush 195 (16 : Int32) dM_twoDraws_193 rfl (by decide) ?_
                  refine g_iload 197 dM_twoDraws_195 rfl rfl ?_
                  refine g_isub 198 dM_twoDraws_197 rfl ?_
                  refine g_iload 200 dM_twoDraws_198 rfl rfl ?_
                  refine g_isub 201 dM_twoDraws_200 rfl ?_
                  refine g_iload 203 dM_twoDraws_201 rfl rfl ?_
                  refine g_iadd 204 dM_twoDraws_203 rfl ?_
                  refine g_i2l 205 dM_twoDraws_204 rfl ?_
                  refine g_lmul 206 dM_twoDraws_205 rfl ?_
                  refine g_lstore 208 [some (.ref v0), some (.int v1), some (.int v2), some (.int v3), some (.int v4), some (.int v5), some (.int v6), some (.long (v7 * ((((16 : Int32) - (((v3 >>> (v9 &&& 31)) &&& (1 : Int32)) * (16 : Int32))) - t9) + t9).toInt64)), none, some (.int v9), some (.int ((v1 >>> (v9 &&& 31)) &&& (1 : Int32))), some (.int ((v4 >>> (v9 &&& 31)) &&& (1 : Int32))), some (.int t8), some (.int t9), some (.int (((v3 >>> (v9 &&& 31)) &&& (1 : Int32)) * (16 : Int32))), some (.int t9), some (.int t9)] dM_twoDraws_206 rfl rfl (by decide) ?_
                  refine g_iinc 211 [some (.ref v0), some (.int v1), some (.int v2), some (.int v3), some (.int v4), some (.int v5), some (.int v6), some (.long (v7 * ((((16 : Int32) - (((v3 >>> (v9 &&& 31)) &&& (1 : Int32)) * (16 : Int32))) - t9) + t9).toInt64)), none, some (.int (v9 + (1 : Int32))), some (.int ((v1 >>> (v9 &&& 31)) &&& (1 : Int32))), some (.int ((v4 >>> (v9 &&& 31)) &&& (1 : Int32))), some (.int t8), some (.int t9), some (.int (((v3 >>> (v9 &&& 31)) &&& (1 : Int32)) * (16 : Int32))), some (.int t9), some (.int t9)] dM_twoDraws_208 rfl rfl (x_inc (1 : Int32) (by decide)) rfl (by decide) ?_
                  refine g_goto 6 dM_twoDraws_211 (by decide) ?_
                  refine g_less [some (.ref v0), some (.int v1), some (.int v2), some (.int v3), some (.int v4), some (.int v5), some (.int v6), some (.long (v7 * ((((16 : Int32) - (((v3 >>> (v9 &&& 31)) &&& (1 : Int32)) * (16 : Int32))) - t9) + t9).toInt64)), none, some (.int (v9 + (1 : Int32))), none, none, none, none, none, none, none] ⟨rfl, rfl, rfl, rfl, rfl, rfl, rfl, rfl, rfl, trivial⟩ ?_
                  exact ih _ _ _ _ _ _ _ _ _ h
            · rw [if_neg c27] at h
              refine g_icmp_ge_f 143 148 dM_twoDraws_140 (by decide) rfl c27 ?_
              refine g_iload 145 dM_twoDraws_143 rfl rfl ?_
              refine g_goto 150 dM_twoDraws_145 (by decide) ?_
              refine g_istore 152 [some (.ref v0), some (.int v1), some (.int v2), some (.int v3), some (.int v4), some (.int v5), some (.int v6), some (.long v7), none, some (.int v9), some (.int ((v1 >>> (v9 &&& 31)) &&& (1 : Int32))), some (.int ((v4 >>> (v9 &&& 31)) &&& (1 : Int32))), some (.int t8), some (.int t9), some (.int (((v3 >>> (v9 &&& 31)) &&& (1 : Int32)) * (16 : Int32))), some (.int t9), some (.int (((v3 >>> (v9 &&& 31)) &&& (1 : Int32)) * (16 : Int32)))] dM_twoDraws_150 rfl rfl (by decide) ?_
              refine g_lload 154 dM_twoDraws_152 rfl rfl ?_
              refine g_iload 156 dM_twoDraws_154 rfl rfl ?_
              refine g_iconst 157 (1 : Int32) dM_twoDraws_156 rfl (by decide) ?_
              by_cases c31 : ((v1 >>> (v9 &&& 31)) &&& (1 : Int32)) = (1 : Int32)
              · rw [if_pos c31] at h
                refine g_icmp_ne_f 160 179 dM_twoDraws_157 (by decide) rfl c31 ?_
                refine g_iload 162 dM_twoDraws_160 rfl rfl ?_
                refine g_iconst 163 (1 : Int32) dM_twoDraws_162 rfl (by decide) ?_
                by_cases c32 : ((v4 >>> (v9 &&& 31)) &&& (1 : Int32)) = (1 : Int32)
                · rw [if_pos c32] at h
                  refine g_icmp_ne_f 166 171 dM_twoDraws_163 (by decide) rfl c32 ?_
                  refine g_iload 168 dM_twoDraws_166 rfl rfl ?_
                  refine g_goto 204 dM_twoDraws_168 (by decide) ?_
                  refine g_i2l 205 dM_twoDraws_204 rfl ?_
                  refine g_lmul 206 dM_twoDraws_205 rfl ?_
                  refine g_lstore 208 [some (.ref v0), some (.int v1), some (.int v2), some (.int v3), some (.int v4), some (.int v5), some (.int v6), some (.long (v7 * (((v3 >>> (v9 &&& 31)) &&& (1 : Int32)) * (16 : Int32)).toInt64)), none, some (.int v9), some (.int ((v1 >>> (v9 &&& 31)) &&& (1 : Int32))), some (.int ((v4 >>> (v9 &&& 31)) &&& (1 : Int32))), some (.int t8), some (.int t9), some (.int (((v3 >>> (v9 &&& 31)) &&& (1 : Int32)) * (16 : Int32))), some (.int t9), some (.int (((v3 >>> (v9 &&& 31)) &&& (1 : Int32)) * (16 : Int32)))] dM_twoDraws_206 rfl rfl (by decide) ?_
                  refine g_iinc 211 [some (.ref v0), some (.int v1), some (.int v2), some (.int v3), some (.int v4), some (.int v5), some (.int v6), some (.long (v7 * (((v3 >>> (v9 &&& 31)) &&& (1 : Int32)) * (16 : Int32)).toInt64)), none, some (.int (v9 + (1 : Int32))), some (.int ((v1 >>> (v9 &&& 31)) &&& (1 : Int32))), some (.int ((v4 >>> (v9 &&& 31)) &&& (1 : Int32))), some (.int t8), some (.int t9), some (.int (((v3 >>> (v9 &&& 31)) &&& (1 : Int32)) * (16 : Int32))), some (.int t9), some (.int (((v3 >>> (v9 &&& 31)) &&& (1 : Int32)) * (16 : Int32)))] dM_twoDraws_208 rfl rfl (x_inc (1 : Int32) (by decide)) rfl (by decide) ?_
                  refine g_goto 6 dM_twoDraws_211 (by decide) ?_
                  refine g_less [some (.ref v0), some (.int v1), some (.int v2), some (.int v3), some (.int v4), some (.int v5), some (.int v6), some (.long (v7 * (((v3 >>> (v9 &&& 31)) &&& (1 : Int32)) * (16 : Int32)).toInt64)), none, some (.int (v9 + (1 : Int32))), none, none, none, none, none, none, none] ⟨rfl, rfl, rfl, rfl, rfl, rfl, rfl, rfl, rfl, trivial⟩ ?_
                  exact ih _ _ _ _ _ _ _ _ _ h
                · rw [if_neg c32] at h
                  refine g_icmp_ne_t 171 dM_twoDraws_163 (by decide) c32 ?_
                  refine g_iload 173 dM_twoDraws_171 rfl rfl ?_
                  refine g_iload 175 dM_twoDraws_173 rfl rfl ?_
                  refine g_isub 176 dM_twoDraws_175 rfl ?_
                  refine g_goto 204 dM_twoDraws_176 (by decide) ?_
                  refine g_i2l 205 dM_twoDraws_204 rfl ?_
                  refine g_lmul 206 dM_twoDraws_205 rfl ?_
                  refine g_lstore 208 [some (.ref v0), some (.int v1), some (.int v2), some (.int v3), some (.int v4), some (.int v5), some (.int v6), some (.long (v7 * ((((v3 >>> (v9 &&& 31)) &&& (1 : Int32)) * (16 : Int32)) - (((v3 >>> (v9 &&& 31)) &&& (1 : Int32)) * (16 : Int32))).toInt64)), none, some (.int v9), some (.int ((v1 >>> (v9 &&& 31)) &&& (1 : Int32))), some (.int ((v4 >>> (v9 &&& 31)) &&& (1 : Int32))), some (.int t8), some (.int t9), some (.int (((v3 >>> (v9 &&& 31)) &&& (1 : Int32)) * (16 : Int32))), some (.int t9), some (.int (((v3 >>> (v9 &&& 31)) &&& (1 : Int32)) * (16 : Int32)))] dM_twoDraws_206 rfl rfl (by decide) ?_
                  refine g_iinc 211 [some (.ref v0), some (.int v1), some (.int v2), some (.int v3), some (.int v4), some (.int v5), some (.int v6), some (.long (v7 * ((((v3 >>> (v9 &&& 31)) &&& (1 : Int32)) * (16 : Int32)) - (((v3 >>> (v9 &&& 31)) &&& (1 : Int32)) * (16 : Int32))).toInt64)), none, some (.int (v9 + (1 : Int32))), some (.int ((v1 >>> (v9 &&& 31)) &&& (1 : Int32))), some (.int ((v4 >>> (v9 &&& 31)) &&& (1 : Int32))), some (.int t8), some (.int t9), some (.int (((v3 >>> (v9 &&& 31)) &&& (1 : Int32)) * (16 : Int32))), some (.int t9), some (.int (((v3 >>> (v9 &&& 31)) &&& (1 : Int32)) * (16 : Int32)))] dM_twoDraws_208 rfl rfl (x_inc (1 : Int32) (by decide)) rfl (by decide) ?_
                  refine g_goto 6 dM_twoDraws_211 (by decide) ?_
                  refine g_less [some (.ref v0), some (.int v1), some (.int v2), some (.int v3), some (.int v4), some (.int v5), some (.int v6), some (.long (v7 * ((((v3 >>> (v9 &&& 31)) &&& (1 : Int32)) * (16 : Int32)) - (((v3 >>> (v9 &&& 31)) &&& (1 : Int32)) * (16 : Int32))).toInt64)), none, some (.int (v9 + (1 : Int32))), none, none, none, none, none, none, none] ⟨rfl, rfl, rfl, rfl, rfl, rfl, rfl, rfl, rfl, trivial⟩ ?_
                  exact ih _ _ _ _ _ _ _ _ _ h
              · rw [if_neg c31] at h
                refine g_icmp_ne_t 179 dM_twoDraws_157 (by decide) c31 ?_
                refine g_iload 181 dM_twoDraws_179 rfl rfl ?_
                refine g_iconst 182 (1 : Int32) dM_twoDraws_181 rfl (by decide) ?_
                by_cases c33 : ((v4 >>> (v9 &&& 31)) &&& (1 : Int32)) = (1 : Int32)
                · rw [if_pos c33] at h
                  refine g_icmp_ne_f 185 193 dM_twoDraws_182 (by decide) rfl c33 ?_
                  refine g_iload 187 dM_twoDraws_185 rfl rfl ?_
                  refine g_iload 189 dM_twoDraws_187 rfl rfl ?_
                  refine g_isub 190 dM_twoDraws_189 rfl ?_
                  refine g_goto 204 dM_twoDraws_190 (by decide) ?_
                  refine g_i2l 205 dM_twoDraws_204 rfl ?_
                  refine g_lmul 206 dM_twoDraws_205 rfl ?_
                  refine g_lstore 208 [some (.ref v0), some (.int v1), some (.int v2), some (.int v3), some (.int v4), some (.int v5), some (.int v6), some (.long (v7 * (t9 - (((v3 >>> (v9 &&& 31)) &&& (1 : Int32)) * (16 : Int32))).toInt64)), none, some (.int v9), some (.int ((v1 >>> (v9 &&& 31)) &&& (1 : Int32))), some (.int ((v4 >>> (v9 &&& 31)) &&& (1 : Int32))), some (.int t8), some (.int t9), some (.int (((v3 >>> (v9 &&& 31)) &&& (1 : Int32)) * (16 : Int32))), some (.int t9), some (.int (((v3 >>> (v9 &&& 31)) &&& (1 : Int32)) * (16 : Int32)))] dM_twoDraws_206 rfl rfl (by decide) ?_
                  refine g_iinc 211 [some (.ref v0), some (.int v1), some (.int v2), some (.int v3), some (.int v4), some (.int v5), some (.int v6), some (.long (v7 * (t9 - (((v3 >>> (v9 &&& 31)) &&& (1 : Int32)) * (16 : Int32))).toInt64)), none, some (.int (v9 + (1 : Int32))), some (.int ((v1 >>> (v9 &&& 31)) &&& (1 : Int32))), some (.int ((v4 >>> (v9 &&& 31)) &&& (1 : Int32))), some (.int t8), some (.int t9), some (.int (((v3 >>> (v9 &&& 31)) &&& (1 : Int32)) * (16 : Int32))), some (.int t9), some (.int (((v3 >>> (v9 &&& 31)) &&& (1 : Int32)) * (16 : Int32)))] dM_twoDraws_208 rfl rfl (x_inc (1 : Int32) (by decide)) rfl (by decide) ?_
                  refine g_goto 6 dM_twoDraws_211 (by decide) ?_
                  refine g_less [some (.ref v0), some (.int v1), some (.int v2), some (.int v3), some (.int v4), some (.int v5), some (.int v6), some (.long (v7 * (t9 - (((v3 >>> (v9 &&& 31)) &&& (1 : Int32)) * (16 : Int32))).toInt64)), none, some (.int (v9 + (1 : Int32))), none, none, none, none, none, none, none] ⟨rfl, rfl, rfl, rfl, rfl, rfl, rfl, rfl, rfl, trivial⟩ ?_
                  exact ih _ _ _ _ _ _ _ _ _ h
                · rw [if_neg c33] at h
                  refine g_icmp_ne_t 193 dM_twoDraws_182 (by decide) c33 ?_
                  refine g_bipush 195 (16 : Int32) dM_twoDraws_193 rfl (by decide) ?_
                  refine g_iload 197 dM_twoDraws_195 rfl rfl ?_
                  refine g_isub 198 dM_twoDraws_197 rfl ?_
                  refine g_iload 200 dM_twoDraws_198 rfl rfl ?_
                  refine g_isub 201 dM_twoDraws_200 rfl ?_
                  refine g_iload 203 dM_twoDraws_201 rfl rfl ?_
                  refine g_iadd 204 dM_twoDraws_203 rfl ?_
                  refine g_i2l 205 dM_twoDraws_204 rfl ?_
                  refine g_lmul 206 dM_twoDraws_205 rfl ?_
                  refine g_lstore 208 [some (.ref v0), some (.int v1), some (.int v2), some (.int v3), some (.int v4), some (.int v5), some (.int v6), some (.long (v7 * ((((16 : Int32) - (((v3 >>> (v9 &&& 31)) &&& (1 : Int32)) * (16 : Int32))) - t9) + (((v3 >>> (v9 &&& 31)) &&& (1 : Int32)) * (16 : Int32))).toInt64)), none, some (.int v9), some (.int ((v1 >>> (v9 &&& 31)) &&& (1 : Int32))), some (.int ((v4 >>> (v9 &&& 31)) &&& (1 : Int32))), some (.int t8), some (.int t9), some (.int (((v3 >>> (v9 &&& 31)) &&& (1 : Int32)) * (16 : Int32))), some (.int t9), some (.int (((v3 >>> (v9 &&& 31)) &&& (1 : Int32)) * (16 : Int32)))] dM_twoDraws_206 rfl rfl (by decide) ?_
                  refine g_iinc 211 [some (.ref v0), some (.int v1), some (.int v2), some (.int v3), some (.int v4), some (.int v5), some (.int v6), some (.long (v7 * ((((16 : Int32) - (((v3 >>> (v9 &&& 31)) &&& (1 : Int32)) * (16 : Int32))) - t9) + (((v3 >>> (v9 &&& 31)) &&& (1 : Int32)) * (16 : Int32))).toInt64)), none, some (.int (v9 + (1 : Int32))), some (.int ((v1 >>> (v9 &&& 31)) &&& (1 : Int32))), some (.int ((v4 >>> (v9 &&& 31)) &&& (1 : Int32))), some (.int t8), some (.int t9), some (.int (((v3 >>> (v9 &&& 31)) &&& (1 : Int32)) * (16 : Int32))), some (.int t9), some (.int (((v3 >>> (v9 &&& 31)) &&& (1 : Int32)) * (16 : Int32)))] dM_twoDraws_208 rfl rfl (x_inc (1 : Int32) (by decide)) rfl (by decide) ?_
                  refine g_goto 6 dM_twoDraws_211 (by decide) ?_
                  refine g_less [some (.ref v0), some (.int v1), some (.int v2), some (.int v3), some (.int v4), some (.int v5), some (.int v6), some (.long (v7 * ((((16 : Int32) - (((v3 >>> (v9 &&& 31)) &&& (1 : Int32)) * (16 : Int32))) - t9) + (((v3 >>> (v9 &&& 31)) &&& (1 : Int32)) * (16 : Int32))).toInt64)), none, some (.int (v9 + (1 : Int32))), none, none, none, none, none, none, none] ⟨rfl, rfl, rfl, rfl, rfl, rfl, rfl, rfl, rfl, trivial⟩ ?_
                  exact ih _ _ _ _ _ _ _ _ _ h
          · rw [if_neg c26] at h
            refine g_if_eq_f 119 132 dM_twoDraws_116 (by decide) rfl c26 ?_
            refine g_iload 121 dM_twoDraws_119 rfl rfl ?_
            refine g_iload 123 dM_twoDraws_121 rfl rfl ?_
            refine g_ishr 124 dM_twoDraws_123 rfl ?_
            refine g_iconst 125 (1 : Int32) dM_twoDraws_124 rfl (by decide) ?_
            refine g_iand 126 dM_twoDraws_125 rfl ?_
            refine g_bipush 128 (16 : Int32) dM_twoDraws_126 rfl (by decide) ?_
            refine g_imul 129 dM_twoDraws_128 rfl ?_
            refine g_goto 134 dM_twoDraws_129 (by decide) ?_
            refine g_istore 136 [some (.ref v0), some (.int v1), some (.int v2), some (.int v3), some (.int v4), some (.int v5), some (.int v6), some (.long v7), none, some (.int v9), some (.int ((v1 >>> (v9 &&& 31)) &&& (1 : Int32))), some (.int ((v4 >>> (v9 &&& 31)) &&& (1 : Int32))), some (.int t8), some (.int t9), some (.int (((v3 >>> (v9 &&& 31)) &&& (1 : Int32)) * (16 : Int32))), some (.int (((v6 >>> (v9 &&& 31)) &&& (1 : Int32)) * (16 : Int32))), none] dM_twoDraws_134 rfl rfl (by decide) ?_
            refine g_iload 138 dM_twoDraws_136 rfl rfl ?_
            refine g_iload 140 dM_twoDraws_138 rfl rfl ?_
            by_cases c34 : (((v6 >>> (v9 &&& 31)) &&& (1 : Int32)) * (16 : Int32)) ≤ (((v3 >>> (v9 &&& 31)) &&& (1 : Int32)) * (16 : Int32))
            · rw [if_pos c34] at h
              refine g_icmp_ge_t 148 dM_twoDraws_140 (by decide) c34 ?_
              refine g_iload 150 dM_twoDraws_148 rfl rfl ?_
              refine g_istore 152 [some (.ref v0), some (.int v1), some (.int v2), some (.int v3), some (.int v4), some (.int v5), some (.int v6), some (.long v7), none, some (.int v9), some (.int ((v1 >>> (v9 &&& 31)) &&& (1 : Int32))), some (.int ((v4 >>> (v9 &&& 31)) &&& (1 : Int32))), some (.int t8), some (.int t9), some (.int (((v3 >>> (v9 &&& 31)) &&& (1 : Int32)) * (16 : Int32))), some (.int (((v6 >>> (v9 &&& 31)) &&& (1 : Int32)) * (16 : Int32))), some (.int (((v6 >>> (v9 &&& 31)) &&& (1 : Int32)) * (16 : Int32)))] dM_twoDraws_150 rfl rfl (by decide) ?_
              refine g_lload 154 dM_twoDraws_152 rfl rfl ?_
              refine g_iload 156 dM_twoDraws_154 rfl rfl ?_
              refine g_iconst 157 (1 : Int32) dM_twoDraws_156 rfl (by decide) ?_
              by_cases c35 : ((v1 >>> (v9 &&& 31)) &&& (1 : Int32)) = (1 : Int32)
              · rw [if_pos c35] at h
                refine g_icmp_ne_f 160 179 dM_twoDraws_157 (by decide) rfl c35 ?_
                refine g_iload 162 dM_twoDraws_160 rfl rfl ?_
                refine g_iconst 163 (1 : Int32) dM_twoDraws_162 rfl (by decide) ?_
                by_cases c36 : ((v4 >>> (v9 &&& 31)) &&& (1 : Int32)) = (1 : Int32)
                · rw [if_pos c36] at h
                  refine g_icmp_ne_f 166 171 dM_twoDraws_163 (by decide) rfl c36 ?_
                  refine g_iload 168 dM_twoDraws_166 rfl rfl ?_
                  refine g_goto 204 dM_twoDraws_168 (by decide) ?_
                  refine g_i2l 205 dM_twoDraws_204 rfl ?_
                  refine g_lmul 206 dM_twoDraws_205 rfl ?_
                  refine g_lstore 208 [some (.ref v0), some (.int v1), some (.int v2), some (.int v3), some (.int v4), some (.int v5), some (.int v6), some (.long (v7 * (((v6 >>> (v9 &&& 31)) &&& (1 : Int32)) * (16 : Int32)).toInt64)), none, some (.int v9), some (.int ((v1 >>> (v9 &&& 31)) &&& (1 : Int32))), some (.int ((v4 >>> (v9 &&& 31)) &&& (1 : Int32))), some (.int t8), some (.int t9), some (.int (((v3 >>> (v9 &&& 31)) &&& (1 : Int32)) * (16 : Int32))), some (.int (((v6 >>> (v9 &&& 31)) &&& (1 : Int32)) * (16 : Int32))), some (.int (((v6 >>> (v9 &&& 31)) &&& (1 : Int32)) * (16 : Int32)))] dM_twoDraws_206 rfl rfl (by decide) ?_
                  refine g_iinc 211 [some (.ref v0), some (.int v1), some (.int v2), some (.int v3), some (.int v4), some (.int v5), some (.int v6), some (.long (v7 * (((v6 >>> (v9 &&& 31)) &&& (1 : Int32)) * (16 : Int32)).toInt64)), none, some (.int (v9 + (1 : Int32))), some (.int ((v1 >>> (v9 &&& 31)) &&& (1 : Int32))), some (.int ((v4 >>> (v9 &&& 31)) &&& (1 : Int32))), some (.int t8), some (.int t9), some (.int (((v3 >>> (v9 &&& 31)) &&& (1 : Int32)) * (16 : Int32))), some (.int (((v6 >>> (v9 &&& 31)) &&& (1 : Int32)) * (16 : Int32))), some (.int (((v6 >>> (v9 &&& 31)) &&& (1 : Int32)) * (16 : Int32)))] dM_twoDraws_208 rfl rfl (x_inc (1 : Int32) (by decide)) rfl (by decide) ?_
                  refine g_goto 6 dM_twoDraws_211 (by decide) ?_
                  refine g_less [some (.ref v0), some (.int v1), some (.int v2), some (.int v3), some (.int v4), some (.int v5), some (.int v6), some (.long (v7 * (((v6 >>> (v9 &&& 31)) &&& (1 : Int32)) * (16 : Int32)).toInt64)), none, some (.int (v9 + (1 : Int32))), none, none, none, none, none, none, none] ⟨rfl, rfl, rfl, rfl, rfl, rfl, rfl, rfl, rfl, trivial⟩ ?_
                  exact ih _ _ _ _ _ _ _ _ _ h
                · rw [if_neg c36] at h
                  refine g_icmp_ne_t 171 dM_twoDraws_163 (by decide) c36 ?_
                  refine g_iload 173 dM_twoDraws_171 rfl rfl ?_
                  refine g_iload 175 dM_twoDraws_173 rfl rfl ?_
                  refine g_isub 176 dM_twoDraws_175 rfl ?_
                  refine g_goto 204 dM_twoDraws_176 (by decide) ?_
                  refine g_i2l 205 dM_twoDraws_204 rfl ?_
                  refine g_lmul 206 dM_twoDraws_205 rfl ?_
                  refine g_lstore 208 [some (.ref v0), some (.int v1), some (.int v2), some (.int v3), some (.int v4), some (.int v5), some (.int v6), some (.long (v7 * ((((v3 >>> (v9 &&& 31)) &&& (1 : Int32)) * (16 : Int32)) - (((v6 >>> (v9 &&& 31)) &&& (1 : Int32)) * (16 : Int32))).toInt64)), none, some (.int v9), some (.int ((v1 >>> (v9 &&& 31)) &&& (1 : Int32))), some (.int ((v4 >>> (v9 &&& 31)) &&& (1 : Int32))), some (.int t8), some (.int t9), some (.int (((v3 >>> (v9 &&& 31)) &&& (1 : Int32)) * (16 : Int32))), some (.int (((v6 >>> (v9 &&& 31)) &&& (1 : Int32)) * (16 : Int32))), some (.int (((v6 >>> (v9 &&& 31)) &&& (1 : Int32)) * (16 : Int32)))] dM_twoDraws_206 rfl rfl (by decide) ?_
                  refine g_iinc 211 [some (.ref v0), some (.int v1), some (.int v2), some (.int v3), some (.int v4), some (.int v5), some (.int v6), some (.long (v7 * ((((v3 >>> (v9 &&& 31)) &&& (1 : Int32)) * (16 : Int32)) - (((v6 >>> (v9 &&& 31)) &&& (1 : Int32)) * (16 : Int32))).toInt64)), none, some (.int (v9 + (1 : Int32))), some (.int ((v1 >>> (v9 &&& 31)) &&& (1 : Int32))), some (.int ((v4 >>> (v9 &&& 31)) &&& (1 : Int32))), some (.int t8), some (.int t9), some (.int (((v3 >>> (v9 &&& 31)) &&& (1 : Int32)) * (16 : Int32))), some (.int (((v6 >>> (v9 &&& 31)) &&& (1 : Int32)) * (16 : Int32))), some (.int (((v6 >>> (v9 &&& 31)) &&& (1 : Int32)) * (16 : Int32)))] dM_twoDraws_208 rfl rfl (x_inc (1 : Int32) (by decide)) rfl (by decide) ?_
                  refine g_goto 6 dM_twoDraws_211 (by decide) ?_
                  refine g_less [some (.ref v0), some (.int v1), some (.int v2), some (.int v3), some (.int v4), some (.int v5), some (.int v6), some (.long (v7 * ((((v3 >>> (v9 &&& 31)) &&& (1 : Int32)) * (16 : Int32)) - (((v6 >>> (v9 &&& 31)) &&& (1 : Int32)) * (16 : Int32))).toInt64)), none, some (.int (v9 + (1 : Int32))), none, none, none, none, none, none, none] ⟨rfl, rfl, rfl, rfl, rfl, rfl, rfl, rfl, rfl, trivial⟩ ?_
                  exact ih _ _ _ _ _ _ _ _ _ h
              · rw [if_neg c35] at h
                refine g_icmp_ne_t 179 dM_twoDraws_157 (by decide) c35 ?_
                refine g_iload 181 dM_twoDraws_179 rfl rfl ?_
                refine g_iconst 182 (1 : Int32) dM_twoDraws_181 rfl (by decide) ?_
                by_cases c37 : ((v4 >>> (v9 &&& 31)) &&& (1 : Int32)) = (1 : Int32)
                · rw [if_pos c37] at h
                  refine g_icmp_ne_f 185 193 dM_twoDraws_182 (by decide) rfl c37 ?_
                  refine g_iload 187 dM_twoDraws_185 rfl rfl ?_
                  refine g_iload 189 dM_twoDraws_187 rfl rfl ?_
                  refine g_isub 190 dM_twoDraws_189 rfl ?_
                  refine g_goto 204 dM_twoDraws_190 (by decide) ?_
                  refine g_i2l 205 dM_twoDraws_204 rfl ?_
                  refine g_lmul 206 dM_twoDraws_205 rfl ?_
                  refine g_lstore 208 [some (.ref v0), some (.int v1), some (.int v2), some (.int v3), some (.int v4), some (.int v5), some (.int v6), some (.long (v7 * ((((v6 >>> (v9 &&& 31)) &&& (1 : Int32)) * (16 : Int32)) - (((v6 >>> (v9 &&& 31)) &&& (1 : Int32)) * (16 : Int32))).toInt64)), none, some (.int v9), some (.int ((v1 >>> (v9 &&& 31)) &&& (1 : Int32))), some (.int ((v4 >>> (v9 &&& 31)) &&& (1 : Int32))), some (.int t8), some (.int t9), some (.int (((v3 >>> (v9 &&& 31)) &&& (1 : Int32)) * (16 : Int32))), some (.int (((v6 >>> (v9 &&& 31)) &&& (1 : Int32)) * (16 : Int32))), some (.int (((v6 >>> (v9 &&& 31)) &&& (1 : Int32)) * (16 : Int32)))] dM_twoDraws_206 rfl rfl (by decide) ?_
                  refine g_iinc 211 [some (.ref v0), some (.int v1), some (.int v2), some (.int v3), some (.int v4), some (.int v5), some (.int v6), some (.long (v7 * ((((v6 >>> (v9 &&& 31)) &&& (1 : Int32)) * (16 : Int32)) - (((v6 >>> (v9 &&& 31)) &&& (1 : Int32)) * (16 : Int32))).toInt64)), none, some (.int (v9 + (1 : Int32))), some (.int ((v1 >>> (v9 &&& 31)) &&& (1 : Int32))), some (.int ((v4 >>> (v9 &&& 31)) &&& (1 : Int32))), some (.int t8), some (.int t9), some (.int (((v3 >>> (v9 &&& 31)) &&& (1 : Int32)) * (16 : Int32))), some (.int (((v6 >>> (v9 &&& 31)) &&& (1 : Int32)) * (16 : Int32))), some (.int (((v6 >>> (v9 &&& 31)) &&& (1 : Int32)) * (16 : Int32)))] dM_twoDraws_208 rfl rfl (x_inc (1 : Int32) (by decide)) rfl (by decide) ?_
                  refine g_goto 6 dM_twoDraws_211 (by decide) ?_
                  refine g_less [some (.ref v0), some (.int v1), some (.int v2), some (.int v3), some (.int v4), some (.int v5), some (.int v6), some (.long (v7 * ((((v6 >>> (v9 &&& 31)) &&& (1 : Int32)) * (16 : Int32)) - (((v6 >>> (v9 &&& 31)) &&& (1 : Int32)) * (16 : Int32))).toInt64)), none, some (.int (v9 + (1 : Int32))), none, none, none, none, none, none, none] ⟨rfl, rfl, rfl, rfl, rfl, rfl, rfl, rfl, rfl, trivial⟩ ?_
                  exact ih _ _ _ _ _ _ _ _ _ h
                · rw [if_neg c37] at h
                  refine g_icmp_ne_t 193 dM_twoDraws_182 (by decide) c37 ?_
                  refine g_bipush 195 (16 : Int32) dM_twoDraws_193 rfl (by decide) ?_
                  refine g_iload 197 dM_twoDraws_195 rfl rfl ?_
                  refine g_isub 198 dM_twoDraws_197 rfl ?_
                  refine g_iload 200 dM_twoDraws_198 rfl rfl ?_
                  refine g_isub 201 dM_twoDraws_200 rfl ?_
                  refine g_iload 203 dM_twoDraws_201 rfl rfl ?_
                  refine g_iadd 204 dM_twoDraws_203 rfl ?_
                  refine g_i2l 205 dM_twoDraws_204 rfl ?_
                  refine g_lmul 206 dM_twoDraws_205 rfl ?_
                  refine g_lstore 208 [some (.ref v0), some (.int v1), some (.int v2), some (.int v3), some (.int v4), some (.int v5), some (.int v6), some (.long (v7 * ((((16 : Int32) - (((v3 >>> (v9 &&& 31)) &&& (1 : Int32)) * (16 : Int32))) - (((v6 >>> (v9 &&& 31)) &&& (1 : Int32)) * (16 : Int32))) + (((v6 >>> (v9 &&& 31)) &&& (1 : Int32)) * (16 : Int32))).toInt64)), none, some (.int v9), some (.int ((v1 >>> (v9 &&& 31)) &&& (1 : Int32))), some (.int ((v4 >>> (v9 &&& 31)) &&& (1 : Int32))), some (.int t8), some (.int t9), some (.int (((v3 >>> (v9 &&& 31)) &&& (1 : Int32)) * (16 : Int32))), some (.int (((v6 >>> (v9 &&& 31)) &&& (1 : Int32)) * (16 : Int32))), some (.int (((v6 >>> (v9 &&& 31)) &&& (1 : Int32)) * (16 : Int32)))] dM_twoDraws_206 rfl rfl (by decide) ?_
                  refine g_iinc 211 [some (.ref v0), some (.int v1), some (.int v2), some (.int v3), some (.int v4), some (.int v5), some (.int v6), some (.long (v7 * ((((16 : Int32) - (((v3 >>> (v9 &&& 31)) &&& (1 : Int32)) * (16 : Int32))) - (((v6 >>> (v9 &&& 31)) &&& (1 : Int32)) * (16 : Int32))) + (((v6 >>> (v9 &&& 31)) &&& (1 : Int32)) * (16 : Int32))).toInt64)), none, some (.int (v9 + (1 : Int32))), some (.int ((v1 >>> (v9 &&& 31)) &&& (1 : Int32))), some (.int ((v4 >>> (v9 &&& 31)) &&& (1 : Int32))), some (.int t8), some (.int t9), some (.int (((v3 >>> (v9 &&& 31)) &&& (1 : Int32)) * (16 : Int32))), some (.int (((v6 >>> (v9 &&& 31)) &&& (1 : Int32)) * (16 : Int32))), some (.int (((v6 >>> (v9 &&& 31)) &&& (1 : Int32)) * (16 : Int32)))] dM_twoDraws_208 rfl rfl (x_inc (1 : Int32) (by decide)) rfl (by decide) ?_
                  refine g_goto 6 dM_twoDraws_211 (by decide) ?_
                  refine g_less [some (.ref v0), some (.int v1), some (.int v2), some (.int v3), some (.int v4), some (.int v5), some (.int v6), some (.long (v7 * ((((16 : Int32) - (((v3 >>> (v9 &&& 31)) &&& (1 : Int32)) * (16 : Int32))) - (((v6 >>> (v9 &&& 31)) &&& (1 : Int32)) * (16 : Int32))) + (((v6 >>> (v9 &&& 31)) &&& (1 : Int32)) * (16 : Int32))).toInt64)), none, some (.int (v9 + (1 : Int32))), none, none, none, none, none, none, none] ⟨rfl, rfl, rfl, rfl, rfl, rfl, rfl, rfl, rfl, trivial⟩ ?_
                  exact ih _ _ _ _ _ _ _ _ _ h
            · rw [if_neg c34] at h
              refine g_icmp_ge_f 143 148 dM_twoDraws_140 (by decide) rfl c34 ?_
              refine g_iload 145 dM_twoDraws_143 rfl rfl ?_
              refine g_goto 150 dM_twoDraws_145 (by decide) ?_
              refine g_istore 152 [some (.ref v0), some (.int v1), some (.int v2), some (.int v3), some (.int v4), some (.int v5), some (.int v6), some (.long v7), none, some (.int v9), some (.int ((v1 >>> (v9 &&& 31)) &&& (1 : Int32))), some (.int ((v4 >>> (v9 &&& 31)) &&& (1 : Int32))), some (.int t8), some (.int t9), some (.int (((v3 >>> (v9 &&& 31)) &&& (1 : Int32)) * (16 : Int32))), some (.int (((v6 >>> (v9 &&& 31)) &&& (1 : Int32)) * (16 : Int32))), some (.int (((v3 >>> (v9 &&& 31)) &&& (1 : Int32)) * (16 : Int32)))] dM_twoDraws_150 rfl rfl (by decide) ?_
              refine g_lload 154 dM_twoDraws_152 rfl rfl ?_
              refine g_iload 156 dM_twoDraws_154 rfl rfl ?_
              refine g_iconst 157 (1 : Int32) dM_twoDraws_156 rfl (by decide) ?_
              by_cases c38 : ((v1 >>> (v9 &&& 31)) &&& (1 : Int32)) = (1 : Int32)
              · rw [if_pos c38] at h
                refine g_icmp_ne_f 160 179 dM_twoDraws_157 (by decide) rfl c38 ?_
                refine g_iload 162 dM_twoDraws_160 rfl rfl ?_
                refine g_iconst 163 (1 : Int32) dM_twoDraws_162 rfl (by decide) ?_
                by_cases c39 : ((v4 >>> (v9 &&& 31)) &&& (1 : Int32)) = (1 : Int32)
                · rw [if_pos c39] at h
                  refine g_icmp_ne_f 166 171 dM_twoDraws_163 (by decide) rfl c39 ?_
                  refine g_iload 168 dM_twoDraws_166 rfl rfl ?_
                  refine g_goto 204 dM_twoDraws_168 (by decide) ?_
                  refine g_i2l 205 dM_twoDraws_204 rfl ?_
                  refine g_lmul 206 dM_twoDraws_205 rfl ?_
                  refine g_lstore 208 [some (.ref v0), some (.int v1), some (.int v2), some (.int v3), some (.int v4), some (.int v5), some (.int v6), some (.long (v7 * (((v3 >>> (v9 &&& 31)) &&& (1 : Int32)) * (16 : Int32)).toInt64)), none, some (.int v9), some (.int ((v1 >>> (v9 &&& 31)) &&& (1 : Int32))), some (.int ((v4 >>> (v9 &&& 31)) &&& (1 : Int32))), some (.int t8), some (.int t9), some (.int (((v3 >>> (v9 &&& 31)) &&& (1 : Int32)) * (16 : Int32))), some (.int (((v6 >>> (v9 &&& 31)) &&& (1 : Int32)) * (16 : Int32))), some (.int (((v3 >>> (v9 &&& 31)) &&& (1 : Int32)) * (16 : Int32)))] dM_twoDraws_206 rfl rfl (by decide) ?_
                  refine g_iinc 211 [some (.ref v0), some (.int v1), some (.int v2), some (.int v3), some (.int v4), some (.int v5), some (.int v6), some (.long (v7 * (((v3 >>> (v9 &&& 31)) &&& (1 : Int32)) * (16 : Int32)).toInt64)), none, some (.int (v9 + (1 : Int32))), some (.int ((v1 >>> (v9 &&& 31)) &&& (1 : Int32))), some (.int ((v4 >>> (v9 &&& 31)) &&& (1 : Int32))), some (.int t8), some (.int t9), some (.int (((v3 >>> (v9 &&& 31)) &&& (1 : Int32)) * (16 : Int32))), some (.int (((v6 >>> (v9 &&& 31)) &&& (1 : Int32)) * (16 : Int32))), some (.int (((v3 >>> (v9 &&& 31)) &&& (1 : Int32)) * (16 : Int32)))] dM_twoDraws_208 rfl rfl (x_inc (1 : Int32) (by decide)) rfl (by decide) ?_
                  refine g_goto 6 dM_twoDraws_211 (by decide) ?_
                  refine g_less [some (.ref v0), some (.int v1), some (.int v2), some (.int v3), some (.int v4), some (.int v5), some (.int v6), some (.long (v7 * (((v3 >>> (v9 &&& 31)) &&& (1 : Int32)) * (16 : Int32)).toInt64)), none, some (.int (v9 + (1 : Int32))), none, none, none, none, none, none, none] ⟨rfl, rfl, rfl, rfl, rfl, rfl, rfl, rfl, rfl, trivial⟩ ?_
                  exact ih _ _ _ _ _ _ _ _ _ h
                · rw [if_neg c39] at h
                  refine g_icmp_ne_t 171 dM_twoDraws_163 (by decide) c39 ?_
                  refine g_iload 173 dM_twoDraws_171 rfl rfl ?_
                  refine g_iload 175 dM_twoDraws_173 rfl rfl ?_
                  refine g_isub 176 dM_twoDraws_175 rfl ?_
                  refine g_goto 204 dM_twoDraws_176 (by decide) ?_
                  refine g_i2l 205 dM_twoDraws_204 rfl ?_
                  refine g_lmul 206 dM_twoDraws_205 rfl ?_
                  refine g_lstore 208 [some (.ref v0), some (.int v1), some (.int v2), some (.int v3), some (.int v4), some (.int v5), some (.int v6), some (.long (v7 * ((((v3 >>> (v9 &&& 31)) &&& (1 : Int32)) * (16 : Int32)) - (((v3 >>> (v9 &&& 31)) &&& (1 : Int32)) * (16 : Int32))).toInt64)), none, some (.int v9), some (.int ((v1 >>> (v9 &&& 31)) &&& (1 : Int32))), some (.int ((v4 >>> (v9 &&& 31)) &&& (1 : Int32))), some (.int t8), some (.int t9), some (.int (((v3 >>> (v9 &&& 31)) &&& (1 : Int32)) * (16 : Int32))), some (.int (((v6 >>> (v9 &&& 31)) &&& (1 : Int32)) * (16 : Int32))), some (.int (((v3 >>> (v9 &&& 31)) &&& (1 : Int32)) * (16 : Int32)))] dM_twoDraws_206 rfl rfl (by decide) ?_
                  refine g_iinc 211 [some (.ref v0), some (.int v1), some (.int v2), some (.int v3), some (.int v4), some (.int v5), some (.int v6), some (.long (v7 * ((((v3 >>> (v9 &&& 31)) &&& (1 : Int32)) * (16 : Int32)) - (((v3 >>> (v9 &&& 31)) &&& (1 : Int32)) * (16 : Int32))).toInt64)), none, some (.int (v9 + (1 : Int32))), some (.int ((v1 >>> (v9 &&& 31)) &&& (1 : Int32))), some (.int ((v4 >>> (v9 &&& 31)) &&& (1 : Int32))), some (.int t8), some (.int t9), some (.int (((v3 >>> (v9 &&& 31)) &&& (1 : Int32)) * (16 : Int32))), some (.int (((v6 >>> (v9 &&& 31)) &&& (1 : Int32)) * (16 : Int32))), some (.int (((v3 >>> (v9 &&& 31)) &&& (1 : Int32)) * (16 : Int32)))] dM_twoDraws_208 rfl rfl (x_inc (1 : Int32) (by decide)) rfl (by decide) ?_
                  refine g_goto 6 dM_twoDraws_211 (by decide) ?_
                  refine g_less [some (.ref v0), some (.int v1), some (.int v2), some (.int v3), some (.int v4), some (.int v5), some (.int v6), some (.long (v7 * ((((v3 >>> (v9 &&& 31)) &&& (1 : Int32)) * (16 : Int32)) - (((v3 >>> (v9 &&& 31)) &&& (1 : Int32)) * (16 : Int32))).toInt64)), none, some (.int (v9 + (1 : Int32))), none, none, none, none, none, none, none] ⟨rfl, rfl, rfl, rfl, rfl, rfl, rfl, rfl, rfl, trivial⟩ ?_
                  exact ih _ _ _ _ _ _ _ _ _ h
              · rw [if_neg c38] at h
                refine g_icmp_ne_t 179 dM_twoDraws_157 (by decide) c38 ?_
                refine g_iload 181 dM_twoDraws_179 rfl rfl ?_
                refine g_iconst 182 (1 : Int32) dM_twoDraws_181 rfl (by decide) ?_
                by_cases c40 : ((v4 >>> (v9 &&& 31)) &&& (1 : Int32)) = (1 : Int32)
                · rw [if_pos c40] at h
                  refine g_icmp_ne_f 185 193 dM_twoDraws_182 (by decide) rfl c40 ?_
                  refine g_iload 187 dM_twoDraws_185 rfl rfl ?_
                  refine g_iload 189 dM_twoDraws_187 rfl rfl ?_
                  refine g_isub 190 dM_twoDraws_189 rfl ?_
                  refine g_goto 204 dM_twoDraws_190 (by decide) ?_
                  refine g_i2l 205 dM_twoDraws_204 rfl ?_
                  refine g_lmul 206 dM_twoDraws_205 rfl ?_
                  refine g_lstore 208 [some (.ref v0), some (.int v1), some (.int v2), some (.int v3), some (.int v4), some (.int v5), some (.int v6), some (.long (v7 * ((((v6 >>> (v9 &&& 31)) &&& (1 : Int32)) * (16 : Int32)) - (((v3 >>> (v9 &&& 31)) &&& (1 : Int32)) * (16 : Int32))).toInt64)), none, some (.int v9), some (.int ((v1 >>> (v9 &&& 31)) &&& (1 : Int32))), some (.int ((v4 >>> (v9 &&& 31)) &&& (1 : Int32))), some (.int t8), some (.int t9), some (.int (((v3 >>> (v9 &&& 31)) &&& (1 : Int32)) * (16 : Int32))), some (.int (((v6 >>> (v9 &&& 31)) &&& (1 : Int32)) * (16 : Int32))), some (.int (((v3 >>> (v9 &&& 31)) &&& (1 : Int32)) * (16 : Int32)))] dM_twoDraws_206 rfl rfl (by decide) ?_
                  refine g_iinc 211 [some (.ref v0), some (.int v1), some (.int v2), some (.int v3), some (.int v4), some (.int v5), some (.int v6), some (.long (v7 * ((((v6 >>> (v9 &&& 31)) &&& (1 : Int32)) * (16 : Int32)) - (((v3 >>> (v9 &&& 31)) &&& (1 : Int32)) * (16 : Int32))).toInt64)), none, some (.int (v9 + (1 : Int32))), some (.int ((v1 >>> (v9 &&& 31)) &&& (1 : Int32))), some (.int ((v4 >>> (v9 &&& 31)) &&& (1 : Int32))), some (.int t8), some (.int t9), some (.int (((v3 >>> (v9 &&& 31)) &&& (1 : Int32)) * (16 : Int32))), some (.int (((v6 >>> (v9 &&& 31)) &&& (1 : Int32)) * (16 : Int32))), some (.int (((v3 >>> (v9 &&& 31)) &&& (1 : Int32)) * (16 : Int32)))] dM_twoDraws_208 rfl rfl (x_inc (1 : Int32) (by decide)) rfl (by decide) ?_
                  refine g_goto 6 dM_twoDraws_211 (by decide) ?_
                  refine g_less [some (.ref v0), some (.int v1), some (.int v2), some (.int v3), some (.int v4), some (.int v5), some (.int v6), some (.long (v7 * ((((v6 >>> (v9 &&& 31)) &&& (1 : Int32)) * (16 : Int32)) - (((v3 >>> (v9 &&& 31)) &&& (1 : Int32)) * (16 : Int32))).toInt64)), none, some (.int (v9 + (1 : Int32))), none, none, none, none, none, none, none] ⟨rfl, rfl, rfl, rfl, rfl, rfl, rfl, rfl, rfl, trivial⟩ ?_
                  exact ih _ _ _ _ _ _ _ _ _ h
                · rw [if_neg c40] at h
                  refine g_icmp_ne_t 193 dM_twoDraws_182 (by decide) c40 ?_
                  refine g_bipush 195 (16 : Int32) dM_twoDraws_193 rfl (by decide) ?_
                  refine g_iload 197 dM_twoDraws_195 rfl rfl ?_
                  refine g_isub 198 dM_twoDraws_197 rfl ?_
                  refine g_iload 200 dM_twoDraws_198 rfl rfl ?_
                  refine g_isub 201 dM_twoDraws_200 rfl ?_
                  refine g_iload 203 dM_twoDraws_201 rfl rfl ?_
                  refine g_iadd 204 dM_twoDraws_203 rfl ?_
                  refine g_i2l 205 dM_twoDraws_204 rfl ?_
                  refine g_lmul 206 dM_twoDraws_205 rfl ?_
                  refine g_lstore 208 [some (.ref v0), some (.int v1), some (.int v2), some (.int v3), some (.int v4), some (.int v5), some (.int v6), some (.long (v7 * ((((16 : Int32) - (((v3 >>> (v9 &&& 31)) &&& (1 : Int32)) * (16 : Int32))) - (((v6 >>> (v9 &&& 31)) &&& (1 : Int32)) * (16 : Int32))) + (((v3 >>> (v9 &&& 31)) &&& (1 : Int32)) * (16 : Int32))).toInt64)), none, some (.int v9), some (.int ((v1 >>> (v9 &&& 31)) &&& (1 : Int32))), some (.int ((v4 >>> (v9 &&& 31)) &&& (1 : Int32))), some (.int t8), some (.int t9), some (.int (((v3 >>> (v9 &&& 31)) &&& (1 : Int32)) * (16 : Int32))), some (.int (((v6 >>> (v9 &&& 31)) &&& (1 : Int32)) * (16 : Int32))), some (.int (((v3 >>> (v9 &&& 31)) &&& (1 : Int32)) * (16 : Int32)))] dM_twoDraws_206 rfl rfl (by decide) ?_
                  refine g_iinc 211 [some (.ref v0), some (.int v1), some (.int v2), some (.int v3), some (.int v4), some (.int v5), some (.int v6), some (.long (v7 * ((((16 : Int32) - (((v3 >>> (v9 &&& 31)) &&& (1 : Int32)) * (16 : Int32))) - (((v6 >>> (v9 &&& 31)) &&& (1 : Int32)) * (16 : Int32))) + (((v3 >>> (v9 &&& 31)) &&& (1 : Int32)) * (16 : Int32))).toInt64)), none, some (.int (v9 + (1 : Int32))), some (.int ((v1 >>> (v9 &&& 31)) &&& (1 : Int32))), some (.int ((v4 >>> (v9 &&& 31)) &&& (1 : Int32))), some (.int t8), some (.int t9), some (.int (((v3 >>> (v9 &&& 31)) &&& (1 : Int32)) * (16 : Int32))), some (.int (((v6 >>> (v9 &&& 31)) &&& (1 : Int32)) * (16 : Int32))), some (.int (((v3 >>> (v9 &&& 31)) &&& (1 : Int32)) * (16 : Int32)))] dM_twoDraws_208 rfl rfl (x_inc (1 : Int32) (by decide)) rfl (by decide) ?_
                  refine g_goto 6 dM_twoDraws_211 (by decide) ?_
                  refine g_less [some (.ref v0), some (.int v1), some (.int v2), some (.int v3), some (.int v4), some (.int v5), some (.int v6), some (.long (v7 * ((((16 : Int32) - (((v3 >>> (v9 &&& 31)) &&& (1 : Int32)) * (16 : Int32))) - (((v6 >>> (v9 &&& 31)) &&& (1 : Int32)) * (16 : Int32))) + (((v3 >>> (v9 &&& 31)) &&& (1 : Int32)) * (16 : Int32))).toInt64)), none, some (.int (v9 + (1 : Int32))), none, none, none, none, none, none, none] ⟨rfl, rfl, rfl, rfl, rfl, rfl, rfl, rfl, rfl, trivial⟩ ?_
                  exact ih _ _ _ _ _ _ _ _ _ h
set_option maxHeartbeats 4000000 in
set_option maxRecDepth 100000 in
theorem mM_twoDraws (d : Nat) (hd : 2 ≤ d) {K : Option Value → x_W → Prop} {w : x_W} {v0 : Nat} {v1 : Int32} {v2 : Int32} {v3 : Int32} {v4 : Int32} {v5 : Int32} {v6 : Int32} {r : Int64} (h : fM_twoDraws w v0 v1 v2 v3 v4 v5 v6 = some r) (hK : K (some (.long r)) w) : x_M yM_twoDraws cM_twoDraws 17 (some .long) d 0 0 [.ref v0, .int v1, .int v2, .int v3, .int v4, .int v5, .int v6] w K := by
  refine x_M.of [some (.ref v0), some (.int v1), some (.int v2), some (.int v3), some (.int v4), some (.int v5), some (.int v6), none, none, none, none, none, none, none, none, none, none] (by decide) rfl (Nat.le_of_ble_eq_true rfl) ?_
  unfold fM_twoDraws at h
  refine g_lconst 1 (1 : Int64) dM_twoDraws_0 rfl (by decide) ?_
  refine g_lstore 3 [some (.ref v0), some (.int v1), some (.int v2), some (.int v3), some (.int v4), some (.int v5), some (.int v6), some (.long (1 : Int64)), none, none, none, none, none, none, none, none, none] dM_twoDraws_1 rfl rfl (by decide) ?_
  refine g_iconst 4 (0 : Int32) dM_twoDraws_3 rfl (by decide) ?_
  refine g_istore 6 [some (.ref v0), some (.int v1), some (.int v2), some (.int v3), some (.int v4), some (.int v5), some (.int v6), some (.long (1 : Int64)), none, some (.int (0 : Int32)), none, none, none, none, none, none, none] dM_twoDraws_4 rfl rfl (by decide) ?_
  exact lM_twoDraws_6 d hd hK x_F _ _ _ _ _ _ _ _ _ h
