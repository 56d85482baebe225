/-! ActSurgery$Graph.drawsFrom(ILActSurgery$World;ILActSurgery$World;I)I: level P -/
theorem dG_drawsFrom_0 : decode cG_drawsFrom 0 = .ok (.iload_n 1, 1) := by decide +kernel
theorem dG_drawsFrom_1 : decode cG_drawsFrom 1 = .ok (.aload_n 0, 1) := by decide +kernel
theorem dG_drawsFrom_2 : decode cG_drawsFrom 2 = .ok (.getfield 12, 3) := by decide +kernel
theorem dG_drawsFrom_5 : decode cG_drawsFrom 5 = .ok (.getfield 26, 3) := by decide +kernel
theorem dG_drawsFrom_8 : decode cG_drawsFrom 8 = .ok (.if_icmp .lt 5, 3) := by decide +kernel
theorem dG_drawsFrom_11 : decode cG_drawsFrom 11 = .ok (.iconst 1, 1) := by decide +kernel
theorem dG_drawsFrom_12 : decode cG_drawsFrom 12 = .ok (.ireturn, 1) := by decide +kernel
theorem dG_drawsFrom_13 : decode cG_drawsFrom 13 = .ok (.aload_n 2, 1) := by decide +kernel
theorem dG_drawsFrom_14 : decode cG_drawsFrom 14 = .ok (.iload_n 1, 1) := by decide +kernel
theorem dG_drawsFrom_15 : decode cG_drawsFrom 15 = .ok (.aload_n 0, 1) := by decide +kernel
theorem dG_drawsFrom_16 : decode cG_drawsFrom 16 = .ok (.iload_n 1, 1) := by decide +kernel
theorem dG_drawsFrom_17 : decode cG_drawsFrom 17 = .ok (.iload_n 3, 1) := by decide +kernel
theorem dG_drawsFrom_18 : decode cG_drawsFrom 18 = .ok (.invokevirtual 72, 3) := by decide +kernel
theorem dG_drawsFrom_21 : decode cG_drawsFrom 21 = .ok (.invokevirtual 76, 3) := by decide +kernel
theorem dG_drawsFrom_24 : decode cG_drawsFrom 24 = .ok (.istore 6, 2) := by decide +kernel
theorem dG_drawsFrom_26 : decode cG_drawsFrom 26 = .ok (.aload 4, 2) := by decide +kernel
theorem dG_drawsFrom_28 : decode cG_drawsFrom 28 = .ok (.iload_n 1, 1) := by decide +kernel
theorem dG_drawsFrom_29 : decode cG_drawsFrom 29 = .ok (.aload_n 0, 1) := by decide +kernel
theorem dG_drawsFrom_30 : decode cG_drawsFrom 30 = .ok (.iload_n 1, 1) := by decide +kernel
theorem dG_drawsFrom_31 : decode cG_drawsFrom 31 = .ok (.iload 5, 2) := by decide +kernel
theorem dG_drawsFrom_33 : decode cG_drawsFrom 33 = .ok (.invokevirtual 72, 3) := by decide +kernel
theorem dG_drawsFrom_36 : decode cG_drawsFrom 36 = .ok (.invokevirtual 76, 3) := by decide +kernel
theorem dG_drawsFrom_39 : decode cG_drawsFrom 39 = .ok (.istore 7, 2) := by decide +kernel
theorem dG_drawsFrom_41 : decode cG_drawsFrom 41 = .ok (.iconst 0, 1) := by decide +kernel
theorem dG_drawsFrom_42 : decode cG_drawsFrom 42 = .ok (.istore 8, 2) := by decide +kernel
theorem dG_drawsFrom_44 : decode cG_drawsFrom 44 = .ok (.iconst 0, 1) := by decide +kernel
theorem dG_drawsFrom_45 : decode cG_drawsFrom 45 = .ok (.istore 9, 2) := by decide +kernel
theorem dG_drawsFrom_47 : decode cG_drawsFrom 47 = .ok (.iload 9, 2) := by decide +kernel
theorem dG_drawsFrom_49 : decode cG_drawsFrom 49 = .ok (.iconst 1, 1) := by decide +kernel
theorem dG_drawsFrom_50 : decode cG_drawsFrom 50 = .ok (.if_icmp .gt 98, 3) := by decide +kernel
theorem dG_drawsFrom_53 : decode cG_drawsFrom 53 = .ok (.iconst 0, 1) := by decide +kernel
theorem dG_drawsFrom_54 : decode cG_drawsFrom 54 = .ok (.istore 10, 2) := by decide +kernel
theorem dG_drawsFrom_56 : decode cG_drawsFrom 56 = .ok (.iload 10, 2) := by decide +kernel
theorem dG_drawsFrom_58 : decode cG_drawsFrom 58 = .ok (.iconst 1, 1) := by decide +kernel
theorem dG_drawsFrom_59 : decode cG_drawsFrom 59 = .ok (.if_icmp .gt 83, 3) := by decide +kernel
theorem dG_drawsFrom_62 : decode cG_drawsFrom 62 = .ok (.aload_n 2, 1) := by decide +kernel
theorem dG_drawsFrom_63 : decode cG_drawsFrom 63 = .ok (.iload_n 1, 1) := by decide +kernel
theorem dG_drawsFrom_64 : decode cG_drawsFrom 64 = .ok (.iload 9, 2) := by decide +kernel
theorem dG_drawsFrom_66 : decode cG_drawsFrom 66 = .ok (.invokevirtual 81, 3) := by decide +kernel
theorem dG_drawsFrom_69 : decode cG_drawsFrom 69 = .ok (.ifCond .eq 28, 3) := by decide +kernel
theorem dG_drawsFrom_72 : decode cG_drawsFrom 72 = .ok (.aload 4, 2) := by decide +kernel
theorem dG_drawsFrom_74 : decode cG_drawsFrom 74 = .ok (.iload_n 1, 1) := by decide +kernel
theorem dG_drawsFrom_75 : decode cG_drawsFrom 75 = .ok (.iload 10, 2) := by decide +kernel
theorem dG_drawsFrom_77 : decode cG_drawsFrom 77 = .ok (.invokevirtual 81, 3) := by decide +kernel
theorem dG_drawsFrom_80 : decode cG_drawsFrom 80 = .ok (.ifCond .eq 17, 3) := by decide +kernel
theorem dG_drawsFrom_83 : decode cG_drawsFrom 83 = .ok (.iload 6, 2) := by decide +kernel
theorem dG_drawsFrom_85 : decode cG_drawsFrom 85 = .ok (.iload 9, 2) := by decide +kernel
theorem dG_drawsFrom_87 : decode cG_drawsFrom 87 = .ok (.iload 7, 2) := by decide +kernel
theorem dG_drawsFrom_89 : decode cG_drawsFrom 89 = .ok (.iload 10, 2) := by decide +kernel
theorem dG_drawsFrom_91 : decode cG_drawsFrom 91 = .ok (.invokestatic 84, 3) := by decide +kernel
theorem dG_drawsFrom_94 : decode cG_drawsFrom 94 = .ok (.goto 4, 3) := by decide +kernel
theorem dG_drawsFrom_97 : decode cG_drawsFrom 97 = .ok (.iconst 0, 1) := by decide +kernel
theorem dG_drawsFrom_98 : decode cG_drawsFrom 98 = .ok (.istore 11, 2) := by decide +kernel
theorem dG_drawsFrom_100 : decode cG_drawsFrom 100 = .ok (.iload 11, 2) := by decide +kernel
theorem dG_drawsFrom_102 : decode cG_drawsFrom 102 = .ok (.ifCond .le 34, 3) := by decide +kernel
theorem dG_drawsFrom_105 : decode cG_drawsFrom 105 = .ok (.iload 8, 2) := by decide +kernel
theorem dG_drawsFrom_107 : decode cG_drawsFrom 107 = .ok (.iload 11, 2) := by decide +kernel
theorem dG_drawsFrom_109 : decode cG_drawsFrom 109 = .ok (.aload_n 0, 1) := by decide +kernel
theorem dG_drawsFrom_110 : decode cG_drawsFrom 110 = .ok (.iload_n 1, 1) := by decide +kernel
theorem dG_drawsFrom_111 : decode cG_drawsFrom 111 = .ok (.iconst 1, 1) := by decide +kernel
theorem dG_drawsFrom_112 : decode cG_drawsFrom 112 = .ok (.iadd, 1) := by decide +kernel
theorem dG_drawsFrom_113 : decode cG_drawsFrom 113 = .ok (.aload_n 2, 1) := by decide +kernel
theorem dG_drawsFrom_114 : decode cG_drawsFrom 114 = .ok (.iload_n 3, 1) := by decide +kernel
theorem dG_drawsFrom_115 : decode cG_drawsFrom 115 = .ok (.iload 9, 2) := by decide +kernel
theorem dG_drawsFrom_117 : decode cG_drawsFrom 117 = .ok (.iload_n 1, 1) := by decide +kernel
theorem dG_drawsFrom_118 : decode cG_drawsFrom 118 = .ok (.ishl, 1) := by decide +kernel
theorem dG_drawsFrom_119 : decode cG_drawsFrom 119 = .ok (.ior, 1) := by decide +kernel
theorem dG_drawsFrom_120 : decode cG_drawsFrom 120 = .ok (.aload 4, 2) := by decide +kernel
theorem dG_drawsFrom_122 : decode cG_drawsFrom 122 = .ok (.iload 5, 2) := by decide +kernel
theorem dG_drawsFrom_124 : decode cG_drawsFrom 124 = .ok (.iload 10, 2) := by decide +kernel
theorem dG_drawsFrom_126 : decode cG_drawsFrom 126 = .ok (.iload_n 1, 1) := by decide +kernel
theorem dG_drawsFrom_127 : decode cG_drawsFrom 127 = .ok (.ishl, 1) := by decide +kernel
theorem dG_drawsFrom_128 : decode cG_drawsFrom 128 = .ok (.ior, 1) := by decide +kernel
theorem dG_drawsFrom_129 : decode cG_drawsFrom 129 = .ok (.invokevirtual 68, 3) := by decide +kernel
theorem dG_drawsFrom_132 : decode cG_drawsFrom 132 = .ok (.imul, 1) := by decide +kernel
theorem dG_drawsFrom_133 : decode cG_drawsFrom 133 = .ok (.iadd, 1) := by decide +kernel
theorem dG_drawsFrom_134 : decode cG_drawsFrom 134 = .ok (.istore 8, 2) := by decide +kernel
theorem dG_drawsFrom_136 : decode cG_drawsFrom 136 = .ok (.iinc 10 1, 3) := by decide +kernel
theorem dG_drawsFrom_139 : decode cG_drawsFrom 139 = .ok (.goto (-83), 3) := by decide +kernel
theorem dG_drawsFrom_142 : decode cG_drawsFrom 142 = .ok (.iinc 9 1, 3) := by decide +kernel
theorem dG_drawsFrom_145 : decode cG_drawsFrom 145 = .ok (.goto (-98), 3) := by decide +kernel
theorem dG_drawsFrom_148 : decode cG_drawsFrom 148 = .ok (.iload 8, 2) := by decide +kernel
theorem dG_drawsFrom_150 : decode cG_drawsFrom 150 = .ok (.ireturn, 1) := by decide +kernel
theorem tw_2_161 : (Jvm.Cond.instanceMethod ({ cls := "ActSurgery$World", name := "takes", desc := "(II)Z" } : Jvm.MethodName)) ∈ x_GT := x_t2 161 rfl rfl
theorem tw_2_162 : (Jvm.Cond.selects "ActSurgery$World" ({ cls := "ActSurgery$World", name := "takes", desc := "(II)Z" } : Jvm.MethodName) ({ cls := "ActSurgery$World", name := "takes", desc := "(II)Z" } : Jvm.MethodName)) ∈ x_GT := x_t2 162 rfl rfl
theorem tw_2_163 : (Jvm.Cond.code ({ cls := "ActSurgery$World", name := "takes", desc := "(II)Z" } : Jvm.MethodName) prog_5_method_3_code (3 : Nat) (Option.some Jvm.ClassFile.FieldType.boolean)) ∈ x_GT := x_t2 163 rfl rfl
theorem tw_2_160 : (Jvm.Cond.methodLink "ActSurgery$Graph" (81 : Nat) ({ cls := "ActSurgery$World", name := "takes", desc := "(II)Z" } : Jvm.MethodName)) ∈ x_GT := x_t2 160 rfl rfl
theorem kG_81 : x_kV "ActSurgery$Graph" 81 yO_takes cO_takes 3 (some .boolean) 2 3 := ⟨tw_2_161, tw_2_162, tw_2_163, tw_1_5, tw_2_160, (by decide +kernel), rfl⟩
theorem tw_2_165 : (Jvm.Cond.static ({ cls := "ActSurgery$Graph", name := "numbersFor", desc := "(IIII)I" } : Jvm.MethodName)) ∈ x_GT := x_t2 165 rfl rfl
theorem tw_2_166 : (Jvm.Cond.code ({ cls := "ActSurgery$Graph", name := "numbersFor", desc := "(IIII)I" } : Jvm.MethodName) prog_3_method_13_code (6 : Nat) (Option.some Jvm.ClassFile.FieldType.int)) ∈ x_GT := x_t2 166 rfl rfl
theorem tw_2_164 : (Jvm.Cond.methodLink "ActSurgery$Graph" (84 : Nat) ({ cls := "ActSurgery$Graph", name := "numbersFor", desc := "(IIII)I" } : Jvm.MethodName)) ∈ x_GT := x_t2 164 rfl rfl
theorem kG_84 : x_kS "ActSurgery$Graph" 84 yG_numbersFor cG_numbersFor 6 (some .int) 4 := ⟨tw_2_165, tw_2_166, tw_1_2, tw_2_164, (by decide +kernel)⟩
theorem tw_2_152 : (Jvm.Cond.instanceMethod ({ cls := "ActSurgery$Graph", name := "drawsFrom", desc := "(ILActSurgery$World;ILActSurgery$World;I)I" } : Jvm.MethodName)) ∈ x_GT := x_t2 152 rfl rfl
theorem tws_24 : (Jvm.Cond.selects "ActSurgery$Graph" ({ cls := "ActSurgery$Graph", name := "drawsFrom", desc := "(ILActSurgery$World;ILActSurgery$World;I)I" } : Jvm.MethodName) ({ cls := "ActSurgery$Graph", name := "drawsFrom", desc := "(ILActSurgery$World;ILActSurgery$World;I)I" } : Jvm.MethodName)) ∈ x_GT := x_ts 24 rfl rfl
theorem tw_2_153 : (Jvm.Cond.code ({ cls := "ActSurgery$Graph", name := "drawsFrom", desc := "(ILActSurgery$World;ILActSurgery$World;I)I" } : Jvm.MethodName) prog_3_method_12_code (12 : Nat) (Option.some Jvm.ClassFile.FieldType.int)) ∈ x_GT := x_t2 153 rfl rfl
theorem tw_2_150 : (Jvm.Cond.methodLink "ActSurgery$Graph" (68 : Nat) ({ cls := "ActSurgery$Graph", name := "drawsFrom", desc := "(ILActSurgery$World;ILActSurgery$World;I)I" } : Jvm.MethodName)) ∈ x_GT := x_t2 150 rfl rfl
theorem kG_68 : x_kV "ActSurgery$Graph" 68 yG_drawsFrom cG_drawsFrom 12 (some .int) 5 2 := ⟨tw_2_152, tws_24, tw_2_153, tw_1_2, tw_2_150, (by decide +kernel), rfl⟩
theorem tw_2_154 : (Jvm.Cond.methodLink "ActSurgery$Graph" (72 : Nat) ({ cls := "ActSurgery$Graph", name := "weightAt", desc := "(II)I" } : Jvm.MethodName)) ∈ x_GT := x_t2 154 rfl rfl
theorem kG_72 : x_kV "ActSurgery$Graph" 72 yG_weightAt cG_weightAt 3 (some .int) 2 2 := ⟨tw_1_159, tw_1_160, tw_1_161, tw_1_2, tw_2_154, (by decide +kernel), rfl⟩
theorem tw_2_156 : (Jvm.Cond.instanceMethod ({ cls := "ActSurgery$World", name := "weightIn", desc := "(II)I" } : Jvm.MethodName)) ∈ x_GT := x_t2 156 rfl rfl
theorem tw_2_157 : (Jvm.Cond.selects "ActSurgery$World" ({ cls := "ActSurgery$World", name := "weightIn", desc := "(II)I" } : Jvm.MethodName) ({ cls := "ActSurgery$World", name := "weightIn", desc := "(II)I" } : Jvm.MethodName)) ∈ x_GT := x_t2 157 rfl rfl
theorem tw_2_158 : (Jvm.Cond.code ({ cls := "ActSurgery$World", name := "weightIn", desc := "(II)I" } : Jvm.MethodName) prog_5_method_4_code (3 : Nat) (Option.some Jvm.ClassFile.FieldType.int)) ∈ x_GT := x_t2 158 rfl rfl
theorem tw_2_155 : (Jvm.Cond.methodLink "ActSurgery$Graph" (76 : Nat) ({ cls := "ActSurgery$World", name := "weightIn", desc := "(II)I" } : Jvm.MethodName)) ∈ x_GT := x_t2 155 rfl rfl
theorem kG_76 : x_kV "ActSurgery$Graph" 76 yO_weightIn cO_weightIn 3 (some .int) 2 3 := ⟨tw_2_156, tw_2_157, tw_2_158, tw_1_5, tw_2_155, (by decide +kernel), rfl⟩
def fG_drawsFrom_56 (w : x_W) (rc : Nat → Int32 → Nat → Int32 → Nat → Int32 → Option Int32) (k47 : Nat → Int32 → Nat → Int32 → Nat → Int32 → Int32 → Int32 → Int32 → Int32 → Option Int32) : Nat → Nat → Int32 → Nat → Int32 → Nat → Int32 → Int32 → Int32 → Int32 → Int32 → Int32 → Option Int32
  | 0, _, _, _, _, _, _, _, _, _, _, _ => none
  | n + 1, v0, v1, v2, v3, v4, v5, v6, v7, v8, v9, v10 =>
    if (1 : Int32) < v10 then
      k47 v0 v1 v2 v3 v4 v5 v6 v7 v8 (v9 + (1 : Int32))
    else
      (x_ob w v2 3).bind fun _ =>
      (fO_takes w v2 v1 v9).bind fun t3 =>
      if t3 = (0 : Int32) then
        fG_drawsFrom_56 w rc k47 n v0 v1 v2 v3 v4 v5 v6 v7 v8 v9 (v10 + (1 : Int32))
      else
        (x_ob w v4 3).bind fun _ =>
        (fO_takes w v4 v1 v10).bind fun t6 =>
        if t6 = (0 : Int32) then
          fG_drawsFrom_56 w rc k47 n v0 v1 v2 v3 v4 v5 v6 v7 v8 v9 (v10 + (1 : Int32))
        else
          if (fG_numbersFor v6 v9 v7 v10) ≤ (0 : Int32) then
            fG_drawsFrom_56 w rc k47 n v0 v1 v2 v3 v4 v5 v6 v7 v8 v9 (v10 + (1 : Int32))
          else
            (x_ob w v0 2).bind fun _ =>
            (rc v0 (v1 + (1 : Int32)) v2 (v3 ||| (v9 <<< (v1 &&& 31))) v4 (v5 ||| (v10 <<< (v1 &&& 31)))).bind fun t10 =>
            fG_drawsFrom_56 w rc k47 n v0 v1 v2 v3 v4 v5 v6 v7 (v8 + ((fG_numbersFor v6 v9 v7 v10) * t10)) v9 (v10 + (1 : Int32))
def fG_drawsFrom_47 (w : x_W) (rc : Nat → Int32 → Nat → Int32 → Nat → Int32 → Option Int32) : Nat → Nat → Int32 → Nat → Int32 → Nat → Int32 → Int32 → Int32 → Int32 → Int32 → Option Int32
  | 0, _, _, _, _, _, _, _, _, _, _ => none
  | n + 1, v0, v1, v2, v3, v4, v5, v6, v7, v8, v9 =>
    if (1 : Int32) < v9 then
      some v8
    else
      fG_drawsFrom_56 w rc (fG_drawsFrom_47 w rc n) x_F v0 v1 v2 v3 v4 v5 v6 v7 v8 v9 (0 : Int32)
def fG_drawsFrom (w : x_W) : Nat → Nat → Int32 → Nat → Int32 → Nat → Int32 → Option Int32
  | 0, _, _, _, _, _, _ => none
  | n + 1, v0, v1, v2, v3, v4, v5 =>
    (x_fr w v0 2 0).bind fun t1 =>
    (x_fi w t1 1 0).bind fun t2 =>
    if v1 < t2 then
      (fG_weightAt w v0 v1 v3).bind fun t4 =>
      (x_ob w v2 3).bind fun _ =>
      (fO_weightIn w v2 v1 t4).bind fun t6 =>
      (fG_weightAt w v0 v1 v5).bind fun t7 =>
      (x_ob w v4 3).bind fun _ =>
      (fO_weightIn w v4 v1 t7).bind fun t9 =>
      fG_drawsFrom_47 w (fG_drawsFrom w n) x_F v0 v1 v2 v3 v4 v5 t6 t9 (0 : Int32) (0 : Int32)
    else
      some (1 : Int32)
set_option maxHeartbeats 4000000 in
set_option maxRecDepth 100000 in
theorem lG_drawsFrom_56 (d : Nat) (hd : 4 ≤ d) {K : Option Value → x_W → Prop} {r : Int32} {w : x_W} (hK : K (some (.int r)) w) {rc : Nat → Int32 → Nat → Int32 → Nat → Int32 → Option Int32} (hrc : ∀ (v0 : Nat) (v1 : Int32) (v2 : Nat) (v3 : Int32) (v4 : Nat) (v5 : Int32) (r : Int32), rc v0 v1 v2 v3 v4 v5 = some r → ∀ K : Option Value → x_W → Prop, K (some (.int r)) w → x_M yG_drawsFrom cG_drawsFrom 12 (some .int) (d - 1) 0 0 [.ref v0, .int v1, .ref v2, .int v3, .ref v4, .int v5] w K) {k47 : Nat → Int32 → Nat → Int32 → Nat → Int32 → Int32 → Int32 → Int32 → Int32 → Option Int32} (hk47 : ∀ (v0 : Nat) (v1 : Int32) (v2 : Nat) (v3 : Int32) (v4 : Nat) (v5 : Int32) (v6 : Int32) (v7 : Int32) (v8 : Int32) (v9 : Int32), k47 v0 v1 v2 v3 v4 v5 v6 v7 v8 v9 = some r → x_G none yG_drawsFrom cG_drawsFrom 12 (some .int) (x_room d 0 0) (x_QM K 0 0) 47 [some (.ref v0), some (.int v1), some (.ref v2), some (.int v3), some (.ref v4), some (.int v5), some (.int v6), some (.int v7), some (.int v8), some (.int v9), none, none] [] w 0 0) : ∀ (n : Nat) (v0 : Nat) (v1 : Int32) (v2 : Nat) (v3 : Int32) (v4 : Nat) (v5 : Int32) (v6 : Int32) (v7 : Int32) (v8 : Int32) (v9 : Int32) (v10 : Int32), fG_drawsFrom_56 w rc k47 n v0 v1 v2 v3 v4 v5 v6 v7 v8 v9 v10 = some r → x_G none yG_drawsFrom cG_drawsFrom 12 (some .int) (x_room d 0 0) (x_QM K 0 0) 56 [some (.ref v0), some (.int v1), some (.ref v2), some (.int v3), some (.ref v4), some (.int v5), some (.int v6), some (.int v7), some (.int v8), some (.int v9), some (.int v10), none] [] w 0 0 := by
  intro n
  induction n with
  | zero => intro v0 v1 v2 v3 v4 v5 v6 v7 v8 v9 v10 h; rw [fG_drawsFrom_56] at h; cases h
  | succ n ih =>
    intro v0 v1 v2 v3 v4 v5 v6 v7 v8 v9 v10 h
    rw [fG_drawsFrom_56] at h
    refine g_iload 58 dG_drawsFrom_56 rfl rfl ?_
    refine g_iconst 59 (1 : Int32) dG_drawsFrom_58 rfl (by decide) ?_
    by_cases c1 : (1 : Int32) < v10
    · rw [if_pos c1] at h
      refine g_icmp_gt_t 142 dG_drawsFrom_59 (by decide) c1 ?_
      refine g_iinc 145 [some (.ref v0), some (.int v1), some (.ref v2), some (.int v3), some (.ref v4), some (.int v5), some (.int v6), some (.int v7), some (.int v8), some (.int (v9 + (1 : Int32))), some (.int v10), none] dG_drawsFrom_142 rfl rfl (x_inc (1 : Int32) (by decide)) rfl (by decide) ?_
      refine g_goto 47 dG_drawsFrom_145 (by decide) ?_
      refine g_less [some (.ref v0), some (.int v1), some (.ref v2), some (.int v3), some (.ref v4), some (.int v5), some (.int v6), some (.int v7), some (.int v8), some (.int (v9 + (1 : Int32))), none, none] ⟨rfl, rfl, rfl, rfl, rfl, rfl, rfl, rfl, rfl, rfl, trivial⟩ ?_
      exact hk47 _ _ _ _ _ _ _ _ _ _ h
    · rw [if_neg c1] at h
      refine g_icmp_gt_f 62 142 dG_drawsFrom_59 (by decide) rfl c1 ?_
      refine g_aload_n 63 (i := 2) dG_drawsFrom_62 rfl rfl rfl ?_
      refine g_iload_n 64 (i := 1) dG_drawsFrom_63 rfl rfl rfl ?_
      refine g_iload 66 dG_drawsFrom_64 rfl rfl ?_
      obtain ⟨_, e2, h⟩ := x_bind h
      obtain ⟨t3, e3, h⟩ := x_bind h
      refine g_cV 69 (some (.int t3)) w [.int v1, .int v9] [] dG_drawsFrom_66 rfl (fun _ hK2 => mO_takes (d - 1) (by omega) e3 hK2) (x_ob_some e2) kG_81 (x_rm (Nat.le_trans (by decide) hd) (by decide)) ⟨Nat.zero_le _, Nat.zero_le _⟩ (Nat.le_of_ble_eq_true rfl) rfl ?_
      by_cases c4 : t3 = (0 : Int32)
      · rw [if_pos c4] at h
        refine g_if_eq_t 97 dG_drawsFrom_69 (by decide) c4 ?_
        refine g_iconst 98 (0 : Int32) dG_drawsFrom_97 rfl (by decide) ?_
        refine g_istore 100 [some (.ref v0), some (.int v1), some (.ref v2), some (.int v3), some (.ref v4), some (.int v5), some (.int v6), some (.int v7), some (.int v8), some (.int v9), some (.int v10), some (.int (0 : Int32))] dG_drawsFrom_98 rfl rfl (by decide) ?_
        refine g_iload 102 dG_drawsFrom_100 rfl rfl ?_
        refine g_if_le_t 136 dG_drawsFrom_102 (by decide) (by decide) ?_
        refine g_iinc 139 [some (.ref v0), some (.int v1), some (.ref v2), some (.int v3), some (.ref v4), some (.int v5), some (.int v6), some (.int v7), some (.int v8), some (.int v9), some (.int (v10 + (1 : Int32))), some (.int (0 : Int32))] dG_drawsFrom_136 rfl rfl (x_inc (1 : Int32) (by decide)) rfl (by decide) ?_
        refine g_goto 56 dG_drawsFrom_139 (by decide) ?_
        refine g_less [some (.ref v0), some (.int v1), some (.ref v2), some (.int v3), some (.ref v4), some (.int v5), some (.int v6), some (.int v7), some (.int v8), some (.int v9), some (.int (v10 + (1 : Int32))), none] ⟨rfl, rfl, rfl, rfl, rfl, rfl, rfl, rfl, rfl, rfl, rfl, trivial⟩ ?_
        exact ih _ _ _ _ _ _ _ _ _ _ _ h
      · rw [if_neg c4] at h
        refine g_if_eq_f 72 97 dG_drawsFrom_69 (by decide) rfl c4 ?_
        refine g_aload 74 dG_drawsFrom_72 rfl rfl ?_
        refine g_iload_n 75 (i := 1) dG_drawsFrom_74 rfl rfl rfl ?_
        refine g_iload 77 dG_drawsFrom_75 rfl rfl ?_
        obtain ⟨_, e5, h⟩ := x_bind h
        obtain ⟨t6, e6, h⟩ := x_bind h
        refine g_cV 80 (some (.int t6)) w [.int v1, .int v10] [] dG_drawsFrom_77 rfl (fun _ hK2 => mO_takes (d - 1) (by omega) e6 hK2) (x_ob_some e5) kG_81 (x_rm (Nat.le_trans (by decide) hd) (by decide)) ⟨Nat.zero_le _, Nat.zero_le _⟩ (Nat.le_of_ble_eq_true rfl) rfl ?_
        by_cases c7 : t6 = (0 : Int32)
        · rw [if_pos c7] at h
          refine g_if_eq_t 97 dG_drawsFrom_80 (by decide) c7 ?_
          refine g_iconst 98 (0 : Int32) dG_drawsFrom_97 rfl (by decide) ?_
          refine g_istore 100 [some (.ref v0), some (.int v1), some (.ref v2), some (.int v3), some (.ref v4), some (.int v5), some (.int v6), some (.int v7), some (.int v8), some (.int v9), some (.int v10), some (.int (0 : Int32))] dG_drawsFrom_98 rfl rfl (by decide) ?_
          refine g_iload 102 dG_drawsFrom_100 rfl rfl ?_
          refine g_if_le_t 136 dG_drawsFrom_102 (by decide) (by decide) ?_
          refine g_iinc 139 [some (.ref v0), some (.int v1), some (.ref v2), some (.int v3), some (.ref v4), some (.int v5), some (.int v6), some (.int v7), some (.int v8), some (.int v9), some (.int (v10 + (1 : Int32))), some (.int (0 : Int32))] dG_drawsFrom_136 rfl rfl (x_inc (1 : Int32) (by decide)) rfl (by decide) ?_
          refine g_goto 56 dG_drawsFrom_139 (by decide) ?_
          refine g_less [some (.ref v0), some (.int v1), some (.ref v2), some (.int v3), some (.ref v4), some (.int v5), some (.int v6), some (.int v7), some (.int v8), some (.int v9), some (.int (v10 + (1 : Int32))), none] ⟨rfl, rfl, rfl, rfl, rfl, rfl, rfl, rfl, rfl, rfl, rfl, trivial⟩ ?_
          exact ih _ _ _ _ _ _ _ _ _ _ _ h
        · rw [if_neg c7] at h
          refine g_if_eq_f 83 97 dG_drawsFrom_80 (by decide) rfl c7 ?_
          refine g_iload 85 dG_drawsFrom_83 rfl rfl ?_
          refine g_iload 87 dG_drawsFrom_85 rfl rfl ?_
          refine g_iload 89 dG_drawsFrom_87 rfl rfl ?_
          refine g_iload 91 dG_drawsFrom_89 rfl rfl ?_
          refine g_cS 94 (some (.int (fG_numbersFor v6 v9 v7 v10))) w [.int v6, .int v9, .int v7, .int v10] [] dG_drawsFrom_91 rfl (fun _ hK2 => mG_numbersFor (d - 1) (by omega) rfl hK2) kG_84 (x_rm (Nat.le_trans (by decide) hd) (by decide)) ⟨Nat.zero_le _, Nat.zero_le _⟩ (Nat.le_of_ble_eq_true rfl) rfl ?_
          refine g_goto 98 dG_drawsFrom_94 (by decide) ?_
          refine g_istore 100 [some (.ref v0), some (.int v1), some (.ref v2), some (.int v3), some (.ref v4), some (.int v5), some (.int v6), some (.int v7), some (.int v8), some (.int v9), some (.int v10), some (.int (fG_numbersFor v6 v9 v7 v10))] dG_drawsFrom_98 rfl rfl (by decide) ?_
          refine g_iload 102 dG_drawsFrom_100 rfl rfl ?_
          by_cases c8 : (fG_numbersFor v6 v9 v7 v10) ≤ (0 : Int32)
          · rw [if_pos c8] at h
            refine g_if_le_t 136 dG_drawsFrom_102 (by decide) c8 ?_
            refine g_iinc 139 [some (.ref v0), some (.int v1), some (.ref v2), some (.int v3), some (.ref v4), some (.int v5), some (.int v6), some (.int v7), some (.int v8), some (.int v9), some (.int (v10 + (1 : Int32))), some (.int (fG_numbersFor v6 v9 v7 v10))] dG_drawsFrom_136 rfl rfl (x_inc (1 : Int32) (by decide)) rfl (by decide) ?_
            refine g_goto 56 dG_drawsFrom_139 (by decide) ?_
            refine g_less [some (.ref v0), some (.int v1), some (.ref v2), some (.int v3), some (.ref v4), some (.int v5), some (.int v6), some (.int v7), some (.int v8), some (.int v9), some (.int (v10 + (1 : Int32))), none] ⟨rfl, rfl, rfl, rfl, rfl, rfl, rfl, rfl, rfl, rfl, rfl, trivial⟩ ?_
            exact ih _ _ _ _ _ _ _ _ _ _ _ h
          · rw [if_neg c8] at h
            refine g_if_le_f 105 136 dG_drawsFrom_102 (by decide) rfl c8 ?_
            refine g_iload 107 dG_drawsFrom_105 rfl rfl ?_
            refine g_iload 109 dG_drawsFrom_107 rfl rfl ?_
            refine g_aload_n 110 (i := 0) dG_drawsFrom_109 rfl rfl rfl ?_
            refine g_iload_n 111 (i := 1) dG_drawsFrom_110 rfl rfl rfl ?_
            refine g_iconst 112 (1 : Int32) dG_drawsFrom_111 rfl (by decide) ?_
            refine g_iadd 113 dG_drawsFrom_112 rfl ?_
            refine g_aload_n 114 (i := 2) dG_drawsFrom_113 rfl rfl rfl ?_
            refine g_iload_n 115 (i := 3) dG_drawsFrom_114 rfl rfl rfl ?_
            refine g_iload 117 dG_drawsFrom_115 rfl rfl ?_
            refine g_iload_n 118 (i := 1) dG_drawsFrom_117 rfl rfl rfl ?_
            refine g_ishl 119 dG_drawsFrom_118 rfl ?_
            refine g_ior 120 dG_drawsFrom_119 rfl ?_
            refine g_aload 122 dG_drawsFrom_120 rfl rfl ?_
            refine g_iload 124 dG_drawsFrom_122 rfl rfl ?_
            refine g_iload 126 dG_drawsFrom_124 rfl rfl ?_
            refine g_iload_n 127 (i := 1) dG_drawsFrom_126 rfl rfl rfl ?_
            refine g_ishl 128 dG_drawsFrom_127 rfl ?_
            refine g_ior 129 dG_drawsFrom_128 rfl ?_
            obtain ⟨_, e9, h⟩ := x_bind h
            obtain ⟨t10, e10, h⟩ := x_bind h
            refine g_cV 132 (some (.int t10)) w [.int (v1 + (1 : Int32)), .ref v2, .int (v3 ||| (v9 <<< (v1 &&& 31))), .ref v4, .int (v5 ||| (v10 <<< (v1 &&& 31)))] [.int (fG_numbersFor v6 v9 v7 v10), .int v8] dG_drawsFrom_129 rfl (fun _ hK2 => hrc _ _ _ _ _ _ _ e10 _ hK2) (x_ob_some e9) kG_68 (x_rm (Nat.le_trans (by decide) hd) (by decide)) ⟨Nat.zero_le _, Nat.zero_le _⟩ (Nat.le_of_ble_eq_true rfl) rfl ?_
            refine g_imul 133 dG_drawsFrom_132 rfl ?_
            refine g_iadd 134 dG_drawsFrom_133 rfl ?_
            refine g_istore 136 [some (.ref v0), some (.int v1), some (.ref v2), some (.int v3), some (.ref v4), some (.int v5), some (.int v6), some (.int v7), some (.int (v8 + ((fG_numbersFor v6 v9 v7 v10) * t10))), some (.int v9), some (.int v10), some (.int (fG_numbersFor v6 v9 v7 v10))] dG_drawsFrom_134 rfl rfl (by decide) ?_
            refine g_iinc 139 [some (.ref v0), some (.int v1), some (.ref v2), some (.int v3), some (.ref v4), some (.int v5), some (.int v6), some (.int v7), some (.int (v8 + ((fG_numbersFor v6 v9 v7 v10) * t10))), some (.int v9), some (.int (v10 + (1 : Int32))), some (.int (fG_numbersFor v6 v9 v7 v10))] dG_drawsFrom_136 rfl rfl (x_inc (1 : Int32) (by decide)) rfl (by decide) ?_
            refine g_goto 56 dG_drawsFrom_139 (by decide) ?_
            refine g_less [some (.ref v0), some (.int v1), some (.ref v2), some (.int v3), some (.ref v4), some (.int v5), some (.int v6), some (.int v7), some (.int (v8 + ((fG_numbersFor v6 v9 v7 v10) * t10))), some (.int v9), some (.int (v10 + (1 : Int32))), none] ⟨rfl, rfl, rfl, rfl, rfl, rfl, rfl, rfl, rfl, rfl, rfl, trivial⟩ ?_
            exact ih _ _ _ _ _ _ _ _ _ _ _ h
set_option maxHeartbeats 4000000 in
set_option maxRecDepth 100000 in
theorem lG_drawsFrom_47 (d : Nat) (hd : 4 ≤ d) {K : Option Value → x_W → Prop} {r : Int32} {w : x_W} (hK : K (some (.int r)) w) {rc : Nat → Int32 → Nat → Int32 → Nat → Int32 → Option Int32} (hrc : ∀ (v0 : Nat) (v1 : Int32) (v2 : Nat) (v3 : Int32) (v4 : Nat) (v5 : Int32) (r : Int32), rc v0 v1 v2 v3 v4 v5 = some r → ∀ K : Option Value → x_W → Prop, K (some (.int r)) w → x_M yG_drawsFrom cG_drawsFrom 12 (some .int) (d - 1) 0 0 [.ref v0, .int v1, .ref v2, .int v3, .ref v4, .int v5] w K) : ∀ (n : Nat) (v0 : Nat) (v1 : Int32) (v2 : Nat) (v3 : Int32) (v4 : Nat) (v5 : Int32) (v6 : Int32) (v7 : Int32) (v8 : Int32) (v9 : Int32), fG_drawsFrom_47 w rc n v0 v1 v2 v3 v4 v5 v6 v7 v8 v9 = some r → x_G none yG_drawsFrom cG_drawsFrom 12 (some .int) (x_room d 0 0) (x_QM K 0 0) 47 [some (.ref v0), some (.int v1), some (.ref v2), some (.int v3), some (.ref v4), some (.int v5), some (.int v6), some (.int v7), some (.int v8), some (.int v9), none, none] [] w 0 0 := by
  intro n
  induction n with
  | zero => intro v0 v1 v2 v3 v4 v5 v6 v7 v8 v9 h; rw [fG_drawsFrom_47] at h; cases h
  | succ n ih =>
    intro v0 v1 v2 v3 v4 v5 v6 v7 v8 v9 h
    rw [fG_drawsFrom_47] at h
    refine g_iload 49 dG_drawsFrom_47 rfl rfl ?_
    refine g_iconst 50 (1 : Int32) dG_drawsFrom_49 rfl (by decide) ?_
    by_cases c1 : (1 : Int32) < v9
    · rw [if_pos c1] at h
      refine g_icmp_gt_t 148 dG_drawsFrom_50 (by decide) c1 ?_
      refine g_iload 150 dG_drawsFrom_148 rfl rfl ?_
      obtain rfl := Option.some.inj h
      exact g_iret rfl dG_drawsFrom_150 hK
    · rw [if_neg c1] at h
      refine g_icmp_gt_f 53 148 dG_drawsFrom_50 (by decide) rfl c1 ?_
      refine g_iconst 54 (0 : Int32) dG_drawsFrom_53 rfl (by decide) ?_
      refine g_istore 56 [some (.ref v0), some (.int v1), some (.ref v2), some (.int v3), some (.ref v4), some (.int v5), some (.int v6), some (.int v7), some (.int v8), some (.int v9), some (.int (0 : Int32)), none] dG_drawsFrom_54 rfl rfl (by decide) ?_
      exact lG_drawsFrom_56 d hd hK hrc (fun _ _ _ _ _ _ _ _ _ _ hz => ih _ _ _ _ _ _ _ _ _ _ hz) x_F _ _ _ _ _ _ _ _ _ _ _ h
set_option maxHeartbeats 4000000 in
set_option maxRecDepth 100000 in
theorem mG_drawsFrom : ∀ (k d : Nat) (_ : 3 + k ≤ d) (K : Option Value → x_W → Prop) (w : x_W) (v0 : Nat) (v1 : Int32) (v2 : Nat) (v3 : Int32) (v4 : Nat) (v5 : Int32) (r : Int32) (_ : fG_drawsFrom w k v0 v1 v2 v3 v4 v5 = some r) (_ : K (some (.int r)) w), x_M yG_drawsFrom cG_drawsFrom 12 (some .int) d 0 0 [.ref v0, .int v1, .ref v2, .int v3, .ref v4, .int v5] w K := by
  intro k
  induction k with
  | zero => intro d hd K w v0 v1 v2 v3 v4 v5 r h hK; rw [fG_drawsFrom] at h; cases h
  | succ k ih =>
    intro d hd K w v0 v1 v2 v3 v4 v5 r h hK
    have hrc : ∀ (v0 : Nat) (v1 : Int32) (v2 : Nat) (v3 : Int32) (v4 : Nat) (v5 : Int32) (r : Int32), fG_drawsFrom w k v0 v1 v2 v3 v4 v5 = some r → ∀ K : Option Value → x_W → Prop, K (some (.int r)) w → x_M yG_drawsFrom cG_drawsFrom 12 (some .int) (d - 1) 0 0 [.ref v0, .int v1, .ref v2, .int v3, .ref v4, .int v5] w K := fun v0 v1 v2 v3 v4 v5 r h K hK => ih (d - 1) (by omega) K w v0 v1 v2 v3 v4 v5 r h hK
    have hd : 4 ≤ d := by omega
    refine x_M.of [some (.ref v0), some (.int v1), some (.ref v2), some (.int v3), some (.ref v4), some (.int v5), none, none, none, none, none, none] (by decide) rfl (Nat.le_of_ble_eq_true rfl) ?_
    rw [fG_drawsFrom] at h
    refine g_iload_n 1 (i := 1) dG_drawsFrom_0 rfl rfl rfl ?_
    refine g_aload_n 2 (i := 0) dG_drawsFrom_1 rfl rfl rfl ?_
    obtain ⟨t1, e1, h⟩ := x_bind h
    refine g_getfR 5 2 0 dG_drawsFrom_2 rfl x_in2 tw_1_56 rfl (by decide) e1 ?_
    obtain ⟨t2, e2, h⟩ := x_bind h
    refine g_getfI 8 1 0 dG_drawsFrom_5 rfl x_in1 tw_1_32 rfl (by decide) e2 ?_
    by_cases c3 : v1 < t2
    · rw [if_pos c3] at h
      refine g_icmp_lt_t 13 dG_drawsFrom_8 (by decide) c3 ?_
      refine g_aload_n 14 (i := 2) dG_drawsFrom_13 rfl rfl rfl ?_
      refine g_iload_n 15 (i := 1) dG_drawsFrom_14 rfl rfl rfl ?_
      refine g_aload_n 16 (i := 0) dG_drawsFrom_15 rfl rfl rfl ?_
      refine g_iload_n 17 (i := 1) dG_drawsFrom_16 rfl rfl rfl ?_
      refine g_iload_n 18 (i := 3) dG_drawsFrom_17 rfl rfl rfl ?_
      obtain ⟨t4, e4, h⟩ := x_bind h
      refine g_cV 21 (some (.int t4)) w [.int v1, .int v3] [.int v1, .ref v2] dG_drawsFrom_18 rfl (fun _ hK2 => mG_weightAt (d - 1) (by omega) e4 hK2) (x_fr_ob e1) kG_72 (x_rm (Nat.le_trans (by decide) hd) (by decide)) ⟨Nat.zero_le _, Nat.zero_le _⟩ (Nat.le_of_ble_eq_true rfl) rfl ?_
      obtain ⟨_, e5, h⟩ := x_bind h
      obtain ⟨t6, e6, h⟩ := x_bind h
      refine g_cV 24 (some (.int t6)) w [.int v1, .int t4] [] dG_drawsFrom_21 rfl (fun _ hK2 => mO_weightIn (d - 1) (by omega) e6 hK2) (x_ob_some e5) kG_76 (x_rm (Nat.le_trans (by decide) hd) (by decide)) ⟨Nat.zero_le _, Nat.zero_le _⟩ (Nat.le_of_ble_eq_true rfl) rfl ?_
      refine g_istore 26 [some (.ref v0), some (.int v1), some (.ref v2), some (.int v3), some (.ref v4), some (.int v5), some (.int t6), none, none, none, none, none] dG_drawsFrom_24 rfl rfl (by decide) ?_
      refine g_aload 28 dG_drawsFrom_26 rfl rfl ?_
      refine g_iload_n 29 (i := 1) dG_drawsFrom_28 rfl rfl rfl ?_
      refine g_aload_n 30 (i := 0) dG_drawsFrom_29 rfl rfl rfl ?_
      refine g_iload_n 31 (i := 1) dG_drawsFrom_30 rfl rfl rfl ?_
      refine g_iload 33 dG_drawsFrom_31 rfl rfl ?_
      obtain ⟨t7, e7, h⟩ := x_bind h
      refine g_cV 36 (some (.int t7)) w [.int v1, .int v5] [.int v1, .ref v4] dG_drawsFrom_33 rfl (fun _ hK2 => mG_weightAt (d - 1) (by omega) e7 hK2) (x_fr_ob e1) kG_72 (x_rm (Nat.le_trans (by decide) hd) (by decide)) ⟨Nat.zero_le _, Nat.zero_le _⟩ (Nat.le_of_ble_eq_true rfl) rfl ?_
      obtain ⟨_, e8, h⟩ := x_bind h
      obtain ⟨t9, e9, h⟩ := x_bind h
      refine g_cV 39 (some (.int t9)) w [.int v1, .int t7] [] dG_drawsFrom_36 rfl (fun _ hK2 => mO_weightIn (d - 1) (by omega) e9 hK2) (x_ob_some e8) kG_76 (x_rm (Nat.le_trans (by decide) hd) (by decide)) ⟨Nat.zero_le _, Nat.zero_le _⟩ (Nat.le_of_ble_eq_true rfl) rfl ?_
      refine g_istore 41 [some (.ref v0), some (.int v1), some (.ref v2), some (.int v3), some (.ref v4), some (.int v5), some (.int t6), some (.int t9), none, none, none, none] dG_drawsFrom_39 rfl rfl (by decide) ?_
      refine g_iconst 42 (0 : Int32) dG_drawsFrom_41 rfl (by decide) ?_
      refine g_istore 44 [some (.ref v0), some (.int v1), some (.ref v2), some (.int v3), some (.ref v4), some (.int v5), some (.int t6), some (.int t9), some (.int (0 : Int32)), none, none, none] dG_drawsFrom_42 rfl rfl (by decide) ?_
      refine g_iconst 45 (0 : Int32) dG_drawsFrom_44 rfl (by decide) ?_
      refine g_istore 47 [some (.ref v0), some (.int v1), some (.ref v2), some (.int v3), some (.ref v4), some (.int v5), some (.int t6), some (.int t9), some (.int (0 : Int32)), some (.int (0 : Int32)), none, none] dG_drawsFrom_45 rfl rfl (by decide) ?_
      exact lG_drawsFrom_47 d hd hK hrc x_F _ _ _ _ _ _ _ _ _ _ h
    · rw [if_neg c3] at h
      refine g_icmp_lt_f 11 13 dG_drawsFrom_8 (by decide) rfl c3 ?_
      refine g_iconst 12 (1 : Int32) dG_drawsFrom_11 rfl (by decide) ?_
      obtain rfl := Option.some.inj h
      exact g_iret rfl dG_drawsFrom_12 hK
/-! ActSurgery$Graph.drawsOfBoth(LActSurgery$World;LActSurgery$World;)I: level P -/
theorem dG_drawsOfBoth_0 : decode cG_drawsOfBoth 0 = .ok (.aload_n 0, 1) := by decide +kernel
theorem dG_drawsOfBoth_1 : decode cG_drawsOfBoth 1 = .ok (.iconst 0, 1) := by decide +kernel
theorem dG_drawsOfBoth_2 : decode cG_drawsOfBoth 2 = .ok (.aload_n 1, 1) := by decide +kernel
theorem dG_drawsOfBoth_3 : decode cG_drawsOfBoth 3 = .ok (.iconst 0, 1) := by decide +kernel
theorem dG_drawsOfBoth_4 : decode cG_drawsOfBoth 4 = .ok (.aload_n 2, 1) := by decide +kernel
theorem dG_drawsOfBoth_5 : decode cG_drawsOfBoth 5 = .ok (.iconst 0, 1) := by decide +kernel
theorem dG_drawsOfBoth_6 : decode cG_drawsOfBoth 6 = .ok (.invokevirtual 68, 3) := by decide +kernel
theorem dG_drawsOfBoth_9 : decode cG_drawsOfBoth 9 = .ok (.ireturn, 1) := by decide +kernel
def fG_drawsOfBoth (w : x_W) (v0 : Nat) (v1 : Nat) (v2 : Nat) : Option Int32 :=
  (x_ob w v0 2).bind fun _ =>
  (fG_drawsFrom w 8 v0 (0 : Int32) v1 (0 : Int32) v2 (0 : Int32)).bind fun t2 =>
  some t2
set_option maxHeartbeats 4000000 in
set_option maxRecDepth 100000 in
theorem mG_drawsOfBoth (d : Nat) (hd : 12 ≤ d) {K : Option Value → x_W → Prop} {w : x_W} {v0 : Nat} {v1 : Nat} {v2 : Nat} {r : Int32} (h : fG_drawsOfBoth w v0 v1 v2 = some r) (hK : K (some (.int r)) w) : x_M yG_drawsOfBoth cG_drawsOfBoth 3 (some .int) d 0 0 [.ref v0, .ref v1, .ref v2] w K := by
  refine x_M.of [some (.ref v0), some (.ref v1), some (.ref v2)] (by decide) rfl (Nat.le_of_ble_eq_true rfl) ?_
  unfold fG_drawsOfBoth at h
  refine g_aload_n 1 (i := 0) dG_drawsOfBoth_0 rfl rfl rfl ?_
  refine g_iconst 2 (0 : Int32) dG_drawsOfBoth_1 rfl (by decide) ?_
  refine g_aload_n 3 (i := 1) dG_drawsOfBoth_2 rfl rfl rfl ?_
  refine g_iconst 4 (0 : Int32) dG_drawsOfBoth_3 rfl (by decide) ?_
  refine g_aload_n 5 (i := 2) dG_drawsOfBoth_4 rfl rfl rfl ?_
  refine g_iconst 6 (0 : Int32) dG_drawsOfBoth_5 rfl (by decide) ?_
  obtain ⟨_, e1, h⟩ := x_bind h
  obtain ⟨t2, e2, h⟩ := x_bind h
  refine g_cV 9 (some (.int t2)) w [.int (0 : Int32), .ref v1, .int (0 : Int32), .ref v2, .int (0 : Int32)] [] dG_drawsOfBoth_6 rfl (fun _ hK2 => mG_drawsFrom 8 (d - 1) (by omega) _ _ _ _ _ _ _ _ _ e2 hK2) (x_ob_some e1) kG_68 (x_rm (Nat.le_trans (by decide) hd) (by decide)) ⟨Nat.zero_le _, Nat.zero_le _⟩ (Nat.le_of_ble_eq_true rfl) rfl ?_
  obtain rfl := Option.some.inj h
  exact g_iret rfl dG_drawsOfBoth_9 hK
/-! ActSurgery.oddsOfTwoGivenOne(I)I: level P -/
theorem dA_oddsOfTwoGivenOne_0 : decode cA_oddsOfTwoGivenOne 0 = .ok (.aload_n 0, 1) := by decide +kernel
theorem dA_oddsOfTwoGivenOne_1 : decode cA_oddsOfTwoGivenOne 1 = .ok (.getfield 10, 3) := by decide +kernel
theorem dA_oddsOfTwoGivenOne_4 : decode cA_oddsOfTwoGivenOne 4 = .ok (.aload_n 0, 1) := by decide +kernel
theorem dA_oddsOfTwoGivenOne_5 : decode cA_oddsOfTwoGivenOne 5 = .ok (.getfield 36, 3) := by decide +kernel
theorem dA_oddsOfTwoGivenOne_8 : decode cA_oddsOfTwoGivenOne 8 = .ok (.aload_n 0, 1) := by decide +kernel
theorem dA_oddsOfTwoGivenOne_9 : decode cA_oddsOfTwoGivenOne 9 = .ok (.getfield 36, 3) := by decide +kernel
theorem dA_oddsOfTwoGivenOne_12 : decode cA_oddsOfTwoGivenOne 12 = .ok (.invokevirtual 173, 3) := by decide +kernel
theorem dA_oddsOfTwoGivenOne_15 : decode cA_oddsOfTwoGivenOne 15 = .ok (.istore_n 2, 1) := by decide +kernel
theorem dA_oddsOfTwoGivenOne_16 : decode cA_oddsOfTwoGivenOne 16 = .ok (.iload_n 2, 1) := by decide +kernel
theorem dA_oddsOfTwoGivenOne_17 : decode cA_oddsOfTwoGivenOne 17 = .ok (.ifCond .gt 5, 3) := by decide +kernel
theorem dA_oddsOfTwoGivenOne_20 : decode cA_oddsOfTwoGivenOne 20 = .ok (.iconst (-1), 1) := by decide +kernel
theorem dA_oddsOfTwoGivenOne_21 : decode cA_oddsOfTwoGivenOne 21 = .ok (.ireturn, 1) := by decide +kernel
theorem dA_oddsOfTwoGivenOne_22 : decode cA_oddsOfTwoGivenOne 22 = .ok (.aload_n 0, 1) := by decide +kernel
theorem dA_oddsOfTwoGivenOne_23 : decode cA_oddsOfTwoGivenOne 23 = .ok (.getfield 10, 3) := by decide +kernel
theorem dA_oddsOfTwoGivenOne_26 : decode cA_oddsOfTwoGivenOne 26 = .ok (.aload_n 0, 1) := by decide +kernel
theorem dA_oddsOfTwoGivenOne_27 : decode cA_oddsOfTwoGivenOne 27 = .ok (.getfield 36, 3) := by decide +kernel
theorem dA_oddsOfTwoGivenOne_30 : decode cA_oddsOfTwoGivenOne 30 = .ok (.aload_n 0, 1) := by decide +kernel
theorem dA_oddsOfTwoGivenOne_31 : decode cA_oddsOfTwoGivenOne 31 = .ok (.getfield 40, 3) := by decide +kernel
theorem dA_oddsOfTwoGivenOne_34 : decode cA_oddsOfTwoGivenOne 34 = .ok (.invokevirtual 173, 3) := by decide +kernel
theorem dA_oddsOfTwoGivenOne_37 : decode cA_oddsOfTwoGivenOne 37 = .ok (.istore_n 3, 1) := by decide +kernel
theorem dA_oddsOfTwoGivenOne_38 : decode cA_oddsOfTwoGivenOne 38 = .ok (.iload_n 3, 1) := by decide +kernel
theorem dA_oddsOfTwoGivenOne_39 : decode cA_oddsOfTwoGivenOne 39 = .ok (.iload_n 2, 1) := by decide +kernel
theorem dA_oddsOfTwoGivenOne_40 : decode cA_oddsOfTwoGivenOne 40 = .ok (.invokestatic 220, 3) := by decide +kernel
theorem dA_oddsOfTwoGivenOne_43 : decode cA_oddsOfTwoGivenOne 43 = .ok (.istore 4, 2) := by decide +kernel
theorem dA_oddsOfTwoGivenOne_45 : decode cA_oddsOfTwoGivenOne 45 = .ok (.iload_n 1, 1) := by decide +kernel
theorem dA_oddsOfTwoGivenOne_46 : decode cA_oddsOfTwoGivenOne 46 = .ok (.ifCond .ne 7, 3) := by decide +kernel
theorem dA_oddsOfTwoGivenOne_49 : decode cA_oddsOfTwoGivenOne 49 = .ok (.iload_n 3, 1) := by decide +kernel
theorem dA_oddsOfTwoGivenOne_50 : decode cA_oddsOfTwoGivenOne 50 = .ok (.goto 4, 3) := by decide +kernel
theorem dA_oddsOfTwoGivenOne_53 : decode cA_oddsOfTwoGivenOne 53 = .ok (.iload_n 2, 1) := by decide +kernel
theorem dA_oddsOfTwoGivenOne_54 : decode cA_oddsOfTwoGivenOne 54 = .ok (.iload 4, 2) := by decide +kernel
theorem dA_oddsOfTwoGivenOne_56 : decode cA_oddsOfTwoGivenOne 56 = .ok (.idiv, 1) := by decide +kernel
theorem dA_oddsOfTwoGivenOne_57 : decode cA_oddsOfTwoGivenOne 57 = .ok (.ireturn, 1) := by decide +kernel
theorem tw_2_147 : (Jvm.Cond.instanceMethod ({ cls := "ActSurgery$Graph", name := "drawsOfBoth", desc := "(LActSurgery$World;LActSurgery$World;)I" } : Jvm.MethodName)) ∈ x_GT := x_t2 147 rfl rfl
theorem tw_2_148 : (Jvm.Cond.selects "ActSurgery$Graph" ({ cls := "ActSurgery$Graph", name := "drawsOfBoth", desc := "(LActSurgery$World;LActSurgery$World;)I" } : Jvm.MethodName) ({ cls := "ActSurgery$Graph", name := "drawsOfBoth", desc := "(LActSurgery$World;LActSurgery$World;)I" } : Jvm.MethodName)) ∈ x_GT := x_t2 148 rfl rfl
theorem tw_2_149 : (Jvm.Cond.code ({ cls := "ActSurgery$Graph", name := "drawsOfBoth", desc := "(LActSurgery$World;LActSurgery$World;)I" } : Jvm.MethodName) prog_3_method_11_code (3 : Nat) (Option.some Jvm.ClassFile.FieldType.int)) ∈ x_GT := x_t2 149 rfl rfl
theorem tw_2_146 : (Jvm.Cond.methodLink "ActSurgery" (173 : Nat) ({ cls := "ActSurgery$Graph", name := "drawsOfBoth", desc := "(LActSurgery$World;LActSurgery$World;)I" } : Jvm.MethodName)) ∈ x_GT := x_t2 146 rfl rfl
theorem kA_173 : x_kV "ActSurgery" 173 yG_drawsOfBoth cG_drawsOfBoth 3 (some .int) 2 2 := ⟨tw_2_147, tw_2_148, tw_2_149, tw_1_2, tw_2_146, (by decide +kernel), rfl⟩
theorem tw_2_174 : (Jvm.Cond.static ({ cls := "ActSurgery", name := "commonMeasure", desc := "(II)I" } : Jvm.MethodName)) ∈ x_GT := x_t2 174 rfl rfl
theorem tw_2_175 : (Jvm.Cond.code ({ cls := "ActSurgery", name := "commonMeasure", desc := "(II)I" } : Jvm.MethodName) prog_1_method_44_code (6 : Nat) (Option.some Jvm.ClassFile.FieldType.int)) ∈ x_GT := x_t2 175 rfl rfl
theorem tw_2_173 : (Jvm.Cond.methodLink "ActSurgery" (220 : Nat) ({ cls := "ActSurgery", name := "commonMeasure", desc := "(II)I" } : Jvm.MethodName)) ∈ x_GT := x_t2 173 rfl rfl
theorem kA_220 : x_kS "ActSurgery" 220 yA_commonMeasure cA_commonMeasure 6 (some .int) 2 := ⟨tw_2_174, tw_2_175, tw_1_1, tw_2_173, (by decide +kernel)⟩
def fA_oddsOfTwoGivenOne (w : x_W) (v0 : Nat) (v1 : Int32) : Option Int32 :=
  (x_fr w v0 0 0).bind fun t1 =>
  (x_fr w v0 0 4).bind fun t2 =>
  (x_ob w t1 2).bind fun _ =>
  (fG_drawsOfBoth w t1 t2 t2).bind fun t4 =>
  if (0 : Int32) < t4 then
    (x_fr w v0 0 5).bind fun t6 =>
    (fG_drawsOfBoth w t1 t2 t6).bind fun t7 =>
    (fA_commonMeasure t7 t4).bind fun t8 =>
    if v1 = (0 : Int32) then
      if t8 = 0 then none else
      some (t7 / t8)
    else
      if t8 = 0 then none else
      some (t4 / t8)
  else
    some (-1 : Int32)
set_option maxHeartbeats 4000000 in
set_option maxRecDepth 100000 in
theorem mA_oddsOfTwoGivenOne (d : Nat) (hd : 13 ≤ d) {K : Option Value → x_W → Prop} {w : x_W} {v0 : Nat} {v1 : Int32} {r : Int32} (h : fA_oddsOfTwoGivenOne w v0 v1 = some r) (hK : K (some (.int r)) w) : x_M yA_oddsOfTwoGivenOne cA_oddsOfTwoGivenOne 5 (some .int) d 0 0 [.ref v0, .int v1] w K := by
  refine x_M.of [some (.ref v0), some (.int v1), none, none, none] (by decide) rfl (Nat.le_of_ble_eq_true rfl) ?_
  unfold fA_oddsOfTwoGivenOne at h
  refine g_aload_n 1 (i := 0) dA_oddsOfTwoGivenOne_0 rfl rfl rfl ?_
  obtain ⟨t1, e1, h⟩ := x_bind h
  refine g_getfR 4 0 0 dA_oddsOfTwoGivenOne_1 rfl x_in0 tw_1_115 rfl (by decide) e1 ?_
  refine g_aload_n 5 (i := 0) dA_oddsOfTwoGivenOne_4 rfl rfl rfl ?_
  obtain ⟨t2, e2, h⟩ := x_bind h
  refine g_getfR 8 0 4 dA_oddsOfTwoGivenOne_5 rfl x_in0 tw_1_119 rfl (by decide) e2 ?_
  refine g_aload_n 9 (i := 0) dA_oddsOfTwoGivenOne_8 rfl rfl rfl ?_
  refine g_getfR 12 0 4 dA_oddsOfTwoGivenOne_9 rfl x_in0 tw_1_119 rfl (by decide) e2 ?_
  obtain ⟨_, e3, h⟩ := x_bind h
  obtain ⟨t4, e4, h⟩ := x_bind h
  refine g_cV 15 (some (.int t4)) w [.ref t2, .ref t2] [] dA_oddsOfTwoGivenOne_12 rfl (fun _ hK2 => mG_drawsOfBoth (d - 1) (by omega) e4 hK2) (x_ob_some e3) kA_173 (x_rm (Nat.le_trans (by decide) hd) (by decide)) ⟨Nat.zero_le _, Nat.zero_le _⟩ (Nat.le_of_ble_eq_true rfl) rfl ?_
  refine g_istore_n 16 (i := 2) [some (.ref v0), some (.int v1), some (.int t4), none, none] dA_oddsOfTwoGivenOne_15 rfl rfl rfl (by decide) ?_
  refine g_iload_n 17 (i := 2) dA_oddsOfTwoGivenOne_16 rfl rfl rfl ?_
  by_cases c5 : (0 : Int32) < t4
  · rw [if_pos c5] at h
    refine g_if_gt_t 22 dA_oddsOfTwoGivenOne_17 (by decide) c5 ?_
    refine g_aload_n 23 (i := 0) dA_oddsOfTwoGivenOne_22 rfl rfl rfl ?_
    refine g_getfR 26 0 0 dA_oddsOfTwoGivenOne_23 rfl x_in0 tw_1_115 rfl (by decide) e1 ?_
    refine g_aload_n 27 (i := 0) dA_oddsOfTwoGivenOne_26 rfl rfl rfl ?_
    refine g_getfR 30 0 4 dA_oddsOfTwoGivenOne_27 rfl x_in0 tw_1_119 rfl (by decide) e2 ?_
    refine g_aload_n 31 (i := 0) dA_oddsOfTwoGivenOne_30 rfl rfl rfl ?_
    obtain ⟨t6, e6, h⟩ := x_bind h
    refine g_getfR 34 0 5 dA_oddsOfTwoGivenOne_31 rfl x_in0 tw_1_120 rfl (by decide) e6 ?_
    obtain ⟨t7, e7, h⟩ := x_bind h
    refine g_cV 37 (some (.int t7)) w [.ref t2, .ref t6] [] dA_oddsOfTwoGivenOne_34 rfl (fun _ hK2 => mG_drawsOfBoth (d - 1) (by omega) e7 hK2) (x_ob_some e3) kA_173 (x_rm (Nat.le_trans (by decide) hd) (by decide)) ⟨Nat.zero_le _, Nat.zero_le _⟩ (Nat.le_of_ble_eq_true rfl) rfl ?_
    refine g_istore_n 38 (i := 3) [some (.ref v0), some (.int v1), some (.int t4), some (.int t7), none] dA_oddsOfTwoGivenOne_37 rfl rfl rfl (by decide) ?_
    refine g_iload_n 39 (i := 3) dA_oddsOfTwoGivenOne_38 rfl rfl rfl ?_
    refine g_iload_n 40 (i := 2) dA_oddsOfTwoGivenOne_39 rfl rfl rfl ?_
    obtain ⟨t8, e8, h⟩ := x_bind h
    refine g_cS 43 (some (.int t8)) w [.int t7, .int t4] [] dA_oddsOfTwoGivenOne_40 rfl (fun _ hK2 => mA_commonMeasure (d - 1) (by omega) e8 hK2) kA_220 (x_rm (Nat.le_trans (by decide) hd) (by decide)) ⟨Nat.zero_le _, Nat.zero_le _⟩ (Nat.le_of_ble_eq_true rfl) rfl ?_
    refine g_istore 45 [some (.ref v0), some (.int v1), some (.int t4), some (.int t7), some (.int t8)] dA_oddsOfTwoGivenOne_43 rfl rfl (by decide) ?_
    refine g_iload_n 46 (i := 1) dA_oddsOfTwoGivenOne_45 rfl rfl rfl ?_
    by_cases c9 : v1 = (0 : Int32)
    · rw [if_pos c9] at h
      refine g_if_ne_f 49 53 dA_oddsOfTwoGivenOne_46 (by decide) rfl c9 ?_
      refine g_iload_n 50 (i := 3) dA_oddsOfTwoGivenOne_49 rfl rfl rfl ?_
      refine g_goto 54 dA_oddsOfTwoGivenOne_50 (by decide) ?_
      refine g_iload 56 dA_oddsOfTwoGivenOne_54 rfl rfl ?_
      by_cases c10 : t8 = 0
      · rw [if_pos c10] at h; cases h
      · rw [if_neg c10] at h
        refine g_idiv 57 dA_oddsOfTwoGivenOne_56 rfl c10 ?_
        obtain rfl := Option.some.inj h
        exact g_iret rfl dA_oddsOfTwoGivenOne_57 hK
    · rw [if_neg c9] at h
      refine g_if_ne_t 53 dA_oddsOfTwoGivenOne_46 (by decide) c9 ?_
      refine g_iload_n 54 (i := 2) dA_oddsOfTwoGivenOne_53 rfl rfl rfl ?_
      refine g_iload 56 dA_oddsOfTwoGivenOne_54 rfl rfl ?_
      by_cases c11 : t8 = 0
      · rw [if_pos c11] at h; cases h
      · rw [if_neg c11] at h
        refine g_idiv 57 dA_oddsOfTwoGivenOne_56 rfl c11 ?_
        obtain rfl := Option.some.inj h
        exact g_iret rfl dA_oddsOfTwoGivenOne_57 hK
  · rw [if_neg c5] at h
    refine g_if_gt_f 20 22 dA_oddsOfTwoGivenOne_17 (by decide) rfl c5 ?_
    refine g_iconst 21 (-1 : Int32) dA_oddsOfTwoGivenOne_20 rfl (by decide) ?_
    obtain rfl := Option.some.inj h
    exact g_iret rfl dA_oddsOfTwoGivenOne_21 hK
/-! ActSurgery$World.become(IIII)V: level X -/
theorem dO_become_0 : decode cO_become 0 = .ok (.aload_n 0, 1) := by decide +kernel
theorem dO_become_1 : decode cO_become 1 = .ok (.iload_n 1, 1) := by decide +kernel
theorem dO_become_2 : decode cO_become 2 = .ok (.putfield 9, 3) := by decide +kernel
theorem dO_become_5 : decode cO_become 5 = .ok (.aload_n 0, 1) := by decide +kernel
theorem dO_become_6 : decode cO_become 6 = .ok (.iload_n 2, 1) := by decide +kernel
theorem dO_become_7 : decode cO_become 7 = .ok (.putfield 15, 3) := by decide +kernel
theorem dO_become_10 : decode cO_become 10 = .ok (.aload_n 0, 1) := by decide +kernel
theorem dO_become_11 : decode cO_become 11 = .ok (.iload_n 3, 1) := by decide +kernel
theorem dO_become_12 : decode cO_become 12 = .ok (.putfield 18, 3) := by decide +kernel
theorem dO_become_15 : decode cO_become 15 = .ok (.aload_n 0, 1) := by decide +kernel
theorem dO_become_16 : decode cO_become 16 = .ok (.iload 4, 2) := by decide +kernel
theorem dO_become_18 : decode cO_become 18 = .ok (.putfield 21, 3) := by decide +kernel
theorem dO_become_21 : decode cO_become 21 = .ok (.return_, 1) := by decide +kernel
def fO_become  (w : x_W) (v0 : Nat) (v1 : Int32) (v2 : Int32) (v3 : Int32) (v4 : Int32) : Option x_W :=
  (x_pf w v0 3 0 (.int v1)).bind fun w1 =>
  (x_pf w1 v0 3 1 (.int v2)).bind fun w2 =>
  (x_pf w2 v0 3 2 (.int v3)).bind fun w3 =>
  (x_pf w3 v0 3 3 (.int v4)).bind fun w4 =>
  some w4
set_option maxHeartbeats 4000000 in
set_option maxRecDepth 100000 in
theorem mO_become (d : Nat) (hd : 1 ≤ d) {K : Option Value → x_W → Prop} {w : x_W} {v0 : Nat} {v1 : Int32} {v2 : Int32} {v3 : Int32} {v4 : Int32} {r : x_W} (h : fO_become w v0 v1 v2 v3 v4 = some r) (hK : K none r) : x_M yO_become cO_become 5 none d 0 0 [.ref v0, .int v1, .int v2, .int v3, .int v4] w K := by
  refine x_M.of [some (.ref v0), some (.int v1), some (.int v2), some (.int v3), some (.int v4)] (by decide) rfl (Nat.le_of_ble_eq_true rfl) ?_
  unfold fO_become at h
  refine g_aload_n 1 (i := 0) dO_become_0 rfl rfl rfl ?_
  refine g_iload_n 2 (i := 1) dO_become_1 rfl rfl rfl ?_
  obtain ⟨w1, e1, h⟩ := x_bind h
  refine g_putf 5 3 0 xy3 xy3_ok xn3 dO_become_2 rfl x_in3 tw_1_102 rfl (by decide) rfl (fun _ _ => ⟨rfl, rfl⟩) e1 ?_
  refine g_aload_n 6 (i := 0) dO_become_5 rfl rfl rfl ?_
  refine g_iload_n 7 (i := 2) dO_become_6 rfl rfl rfl ?_
  obtain ⟨w2, e2, h⟩ := x_bind h
  refine g_putf 10 3 1 xy3 xy3_ok xn3 dO_become_7 rfl x_in3 tw_1_103 rfl (by decide) rfl (fun _ _ => ⟨rfl, rfl⟩) e2 ?_
  refine g_aload_n 11 (i := 0) dO_become_10 rfl rfl rfl ?_
  refine g_iload_n 12 (i := 3) dO_become_11 rfl rfl rfl ?_
  obtain ⟨w3, e3, h⟩ := x_bind h
  refine g_putf 15 3 2 xy3 xy3_ok xn3 dO_become_12 rfl x_in3 tw_1_104 rfl (by decide) rfl (fun _ _ => ⟨rfl, rfl⟩) e3 ?_
  refine g_aload_n 16 (i := 0) dO_become_15 rfl rfl rfl ?_
  refine g_iload 18 dO_become_16 rfl rfl ?_
  obtain ⟨w4, e4, h⟩ := x_bind h
  refine g_putf 21 3 3 xy3 xy3_ok xn3 dO_become_18 rfl x_in3 tw_1_105 rfl (by decide) rfl (fun _ _ => ⟨rfl, rfl⟩) e4 ?_
  obtain rfl := Option.some.inj h
  exact g_vret rfl dO_become_21 hK
/-! ActSurgery.odds(IIIIIII)I: level X -/
theorem dA_odds_0 : decode cA_odds 0 = .ok (.aload_n 0, 1) := by decide +kernel
theorem dA_odds_1 : decode cA_odds 1 = .ok (.iload_n 1, 1) := by decide +kernel
theorem dA_odds_2 : decode cA_odds 2 = .ok (.iload_n 2, 1) := by decide +kernel
theorem dA_odds_3 : decode cA_odds 3 = .ok (.invokevirtual 160, 3) := by decide +kernel
theorem dA_odds_6 : decode cA_odds 6 = .ok (.ifCond .eq 33, 3) := by decide +kernel
theorem dA_odds_9 : decode cA_odds 9 = .ok (.aload_n 0, 1) := by decide +kernel
theorem dA_odds_10 : decode cA_odds 10 = .ok (.iload_n 3, 1) := by decide +kernel
theorem dA_odds_11 : decode cA_odds 11 = .ok (.iload 4, 2) := by decide +kernel
theorem dA_odds_13 : decode cA_odds 13 = .ok (.invokevirtual 160, 3) := by decide +kernel
theorem dA_odds_16 : decode cA_odds 16 = .ok (.ifCond .eq 23, 3) := by decide +kernel
theorem dA_odds_19 : decode cA_odds 19 = .ok (.aload_n 0, 1) := by decide +kernel
theorem dA_odds_20 : decode cA_odds 20 = .ok (.iload 5, 2) := by decide +kernel
theorem dA_odds_22 : decode cA_odds 22 = .ok (.iload 6, 2) := by decide +kernel
theorem dA_odds_24 : decode cA_odds 24 = .ok (.invokevirtual 160, 3) := by decide +kernel
theorem dA_odds_27 : decode cA_odds 27 = .ok (.ifCond .eq 12, 3) := by decide +kernel
theorem dA_odds_30 : decode cA_odds 30 = .ok (.aload_n 0, 1) := by decide +kernel
theorem dA_odds_31 : decode cA_odds 31 = .ok (.iload 7, 2) := by decide +kernel
theorem dA_odds_33 : decode cA_odds 33 = .ok (.invokevirtual 163, 3) := by decide +kernel
theorem dA_odds_36 : decode cA_odds 36 = .ok (.ifCond .ne 6, 3) := by decide +kernel
theorem dA_odds_39 : decode cA_odds 39 = .ok (.bipush (-2), 2) := by decide +kernel
theorem dA_odds_41 : decode cA_odds 41 = .ok (.ireturn, 1) := by decide +kernel
theorem dA_odds_42 : decode cA_odds 42 = .ok (.aload_n 0, 1) := by decide +kernel
theorem dA_odds_43 : decode cA_odds 43 = .ok (.getfield 36, 3) := by decide +kernel
theorem dA_odds_46 : decode cA_odds 46 = .ok (.iload_n 3, 1) := by decide +kernel
theorem dA_odds_47 : decode cA_odds 47 = .ok (.iload 4, 2) := by decide +kernel
theorem dA_odds_49 : decode cA_odds 49 = .ok (.iload 5, 2) := by decide +kernel
theorem dA_odds_51 : decode cA_odds 51 = .ok (.iload 6, 2) := by decide +kernel
theorem dA_odds_53 : decode cA_odds 53 = .ok (.invokevirtual 166, 3) := by decide +kernel
theorem dA_odds_56 : decode cA_odds 56 = .ok (.aload_n 0, 1) := by decide +kernel
theorem dA_odds_57 : decode cA_odds 57 = .ok (.getfield 40, 3) := by decide +kernel
theorem dA_odds_60 : decode cA_odds 60 = .ok (.iload_n 3, 1) := by decide +kernel
theorem dA_odds_61 : decode cA_odds 61 = .ok (.iload 4, 2) := by decide +kernel
theorem dA_odds_63 : decode cA_odds 63 = .ok (.iload_n 1, 1) := by decide +kernel
theorem dA_odds_64 : decode cA_odds 64 = .ok (.iload_n 2, 1) := by decide +kernel
theorem dA_odds_65 : decode cA_odds 65 = .ok (.invokevirtual 166, 3) := by decide +kernel
theorem dA_odds_68 : decode cA_odds 68 = .ok (.aload_n 0, 1) := by decide +kernel
theorem dA_odds_69 : decode cA_odds 69 = .ok (.iload 7, 2) := by decide +kernel
theorem dA_odds_71 : decode cA_odds 71 = .ok (.invokevirtual 170, 3) := by decide +kernel
theorem dA_odds_74 : decode cA_odds 74 = .ok (.ireturn, 1) := by decide +kernel
theorem tw_2_132 : (Jvm.Cond.instanceMethod ({ cls := "ActSurgery", name := "isValued", desc := "(II)Z" } : Jvm.MethodName)) ∈ x_GT := x_t2 132 rfl rfl
theorem tws_21 : (Jvm.Cond.selects "ActSurgery" ({ cls := "ActSurgery", name := "isValued", desc := "(II)Z" } : Jvm.MethodName) ({ cls := "ActSurgery", name := "isValued", desc := "(II)Z" } : Jvm.MethodName)) ∈ x_GT := x_ts 21 rfl rfl
theorem tw_2_133 : (Jvm.Cond.code ({ cls := "ActSurgery", name := "isValued", desc := "(II)Z" } : Jvm.MethodName) prog_1_method_24_code (3 : Nat) (Option.some Jvm.ClassFile.FieldType.boolean)) ∈ x_GT := x_t2 133 rfl rfl
theorem tw_2_130 : (Jvm.Cond.methodLink "ActSurgery" (160 : Nat) ({ cls := "ActSurgery", name := "isValued", desc := "(II)Z" } : Jvm.MethodName)) ∈ x_GT := x_t2 130 rfl rfl
theorem kA_160 : x_kV "ActSurgery" 160 yA_isValued cA_isValued 3 (some .boolean) 2 0 := ⟨tw_2_132, tws_21, tw_2_133, tw_1_1, tw_2_130, (by decide +kernel), rfl⟩
theorem tw_2_136 : (Jvm.Cond.instanceMethod ({ cls := "ActSurgery", name := "isPart", desc := "(I)Z" } : Jvm.MethodName)) ∈ x_GT := x_t2 136 rfl rfl
theorem tws_22 : (Jvm.Cond.selects "ActSurgery" ({ cls := "ActSurgery", name := "isPart", desc := "(I)Z" } : Jvm.MethodName) ({ cls := "ActSurgery", name := "isPart", desc := "(I)Z" } : Jvm.MethodName)) ∈ x_GT := x_ts 22 rfl rfl
theorem tw_2_137 : (Jvm.Cond.code ({ cls := "ActSurgery", name := "isPart", desc := "(I)Z" } : Jvm.MethodName) prog_1_method_25_code (2 : Nat) (Option.some Jvm.ClassFile.FieldType.boolean)) ∈ x_GT := x_t2 137 rfl rfl
theorem tw_2_134 : (Jvm.Cond.methodLink "ActSurgery" (163 : Nat) ({ cls := "ActSurgery", name := "isPart", desc := "(I)Z" } : Jvm.MethodName)) ∈ x_GT := x_t2 134 rfl rfl
theorem kA_163 : x_kV "ActSurgery" 163 yA_isPart cA_isPart 2 (some .boolean) 1 0 := ⟨tw_2_136, tws_22, tw_2_137, tw_1_1, tw_2_134, (by decide +kernel), rfl⟩
theorem tw_2_139 : (Jvm.Cond.instanceMethod ({ cls := "ActSurgery$World", name := "become", desc := "(IIII)V" } : Jvm.MethodName)) ∈ x_GT := x_t2 139 rfl rfl
theorem tw_2_140 : (Jvm.Cond.selects "ActSurgery$World" ({ cls := "ActSurgery$World", name := "become", desc := "(IIII)V" } : Jvm.MethodName) ({ cls := "ActSurgery$World", name := "become", desc := "(IIII)V" } : Jvm.MethodName)) ∈ x_GT := x_t2 140 rfl rfl
theorem tw_2_141 : (Jvm.Cond.code ({ cls := "ActSurgery$World", name := "become", desc := "(IIII)V" } : Jvm.MethodName) prog_5_method_2_code (5 : Nat) (Option.none : Option Jvm.ClassFile.FieldType)) ∈ x_GT := x_t2 141 rfl rfl
theorem tw_2_138 : (Jvm.Cond.methodLink "ActSurgery" (166 : Nat) ({ cls := "ActSurgery$World", name := "become", desc := "(IIII)V" } : Jvm.MethodName)) ∈ x_GT := x_t2 138 rfl rfl
theorem kA_166 : x_kV "ActSurgery" 166 yO_become cO_become 5 none 4 3 := ⟨tw_2_139, tw_2_140, tw_2_141, tw_1_5, tw_2_138, (by decide +kernel), rfl⟩
theorem tw_2_144 : (Jvm.Cond.instanceMethod ({ cls := "ActSurgery", name := "oddsOfTwoGivenOne", desc := "(I)I" } : Jvm.MethodName)) ∈ x_GT := x_t2 144 rfl rfl
theorem tws_23 : (Jvm.Cond.selects "ActSurgery" ({ cls := "ActSurgery", name := "oddsOfTwoGivenOne", desc := "(I)I" } : Jvm.MethodName) ({ cls := "ActSurgery", name := "oddsOfTwoGivenOne", desc := "(I)I" } : Jvm.MethodName)) ∈ x_GT := x_ts 23 rfl rfl
theorem tw_2_145 : (Jvm.Cond.code ({ cls := "ActSurgery", name := "oddsOfTwoGivenOne", desc := "(I)I" } : Jvm.MethodName) prog_1_method_36_code (5 : Nat) (Option.some Jvm.ClassFile.FieldType.int)) ∈ x_GT := x_t2 145 rfl rfl
theorem tw_2_142 : (Jvm.Cond.methodLink "ActSurgery" (170 : Nat) ({ cls := "ActSurgery", name := "oddsOfTwoGivenOne", desc := "(I)I" } : Jvm.MethodName)) ∈ x_GT := x_t2 142 rfl rfl
theorem kA_170 : x_kV "ActSurgery" 170 yA_oddsOfTwoGivenOne cA_oddsOfTwoGivenOne 5 (some .int) 1 0 := ⟨tw_2_144, tws_23, tw_2_145, tw_1_1, tw_2_142, (by decide +kernel), rfl⟩
def fA_odds  (w : x_W) (v0 : Nat) (v1 : Int32) (v2 : Int32) (v3 : Int32) (v4 : Int32) (v5 : Int32) (v6 : Int32) (v7 : Int32) : Option (Int32 × x_W) :=
  (x_ob w v0 0).bind fun _ =>
  (fA_isValued w v0 v1 v2).bind fun t2 =>
  if t2 = (0 : Int32) then
    some ((-2 : Int32), w)
  else
    (fA_isValued w v0 v3 v4).bind fun t4 =>
    if t4 = (0 : Int32) then
      some ((-2 : Int32), w)
    else
      (fA_isValued w v0 v5 v6).bind fun t6 =>
      if t6 = (0 : Int32) then
        some ((-2 : Int32), w)
      else
        if (fA_isPart v0 v7) = (0 : Int32) then
          some ((-2 : Int32), w)
        else
          (x_fr w v0 0 4).bind fun t9 =>
          (x_ob w t9 3).bind fun _ =>
          (fO_become w t9 v3 v4 v5 v6).bind fun w11 =>
          (x_fr w11 v0 0 5).bind fun t12 =>
          (x_ob w11 t12 3).bind fun _ =>
          (fO_become w11 t12 v3 v4 v1 v2).bind fun w14 =>
          (x_ob w14 v0 0).bind fun _ =>
          (fA_oddsOfTwoGivenOne w14 v0 v7).bind fun t16 =>
          some (t16, w14)
set_option maxHeartbeats 4000000 in
set_option maxRecDepth 100000 in
theorem mA_odds (d : Nat) (hd : 14 ≤ d) {K : Option Value → x_W → Prop} {w : x_W} {v0 : Nat} {v1 : Int32} {v2 : Int32} {v3 : Int32} {v4 : Int32} {v5 : Int32} {v6 : Int32} {v7 : Int32} {r : (Int32 × x_W)} (h : fA_odds w v0 v1 v2 v3 v4 v5 v6 v7 = some r) (hK : K (some (.int r.1)) r.2) : x_M yA_odds cA_odds 8 (some .int) d 0 0 [.ref v0, .int v1, .int v2, .int v3, .int v4, .int v5, .int v6, .int v7] w K := by
  refine x_M.of [some (.ref v0), some (.int v1), some (.int v2), some (.int v3), some (.int v4), some (.int v5), some (.int v6), some (.int v7)] (by decide) rfl (Nat.le_of_ble_eq_true rfl) ?_
  unfold fA_odds at h
  refine g_aload_n 1 (i := 0) dA_odds_0 rfl rfl rfl ?_
  refine g_iload_n 2 (i := 1) dA_odds_1 rfl rfl rfl ?_
  refine g_iload_n 3 (i := 2) dA_odds_2 rfl rfl rfl ?_
  obtain ⟨_, e1, h⟩ := x_bind h
  obtain ⟨t2, e2, h⟩ := x_bind h
  refine g_cV 6 (some (.int t2)) w [.int v1, .int v2] [] dA_odds_3 rfl (fun _ hK2 => mA_isValued (d - 1) (by omega) e2 hK2) (x_ob_some e1) kA_160 (x_rm (Nat.le_trans (by decide) hd) (by decide)) ⟨Nat.zero_le _, Nat.zero_le _⟩ (Nat.le_of_ble_eq_true rfl) rfl ?_
  by_cases c3 : t2 = (0 : Int32)
  · rw [if_pos c3] at h
    refine g_if_eq_t 39 dA_odds_6 (by decide) c3 ?_
    refine g_bipush 41 (-2 : Int32) dA_odds_39 rfl (by decide) ?_
    obtain rfl := Option.some.inj h
    exact g_iret rfl dA_odds_41 hK
  · rw [if_neg c3] at h
    refine g_if_eq_f 9 39 dA_odds_6 (by decide) rfl c3 ?_
    refine g_aload_n 10 (i := 0) dA_odds_9 rfl rfl rfl ?_
    refine g_iload_n 11 (i := 3) dA_odds_10 rfl rfl rfl ?_
    refine g_iload 13 dA_odds_11 rfl rfl ?_
    obtain ⟨t4, e4, h⟩ := x_bind h
    refine g_cV 16 (some (.int t4)) w [.int v3, .int v4] [] dA_odds_13 rfl (fun _ hK2 => mA_isValued (d - 1) (by omega) e4 hK2) (x_ob_some e1) kA_160 (x_rm (Nat.le_trans (by decide) hd) (by decide)) ⟨Nat.zero_le _, Nat.zero_le _⟩ (Nat.le_of_ble_eq_true rfl) rfl ?_
    by_cases c5 : t4 = (0 : Int32)
    · rw [if_pos c5] at h
      refine g_if_eq_t 39 dA_odds_16 (by decide) c5 ?_
      refine g_bipush 41 (-2 : Int32) dA_odds_39 rfl (by decide) ?_
      obtain rfl := Option.some.inj h
      exact g_iret rfl dA_odds_41 hK
    · rw [if_neg c5] at h
      refine g_if_eq_f 19 39 dA_odds_16 (by decide) rfl c5 ?_
      refine g_aload_n 20 (i := 0) dA_odds_19 rfl rfl rfl ?_
      refine g_iload 22 dA_odds_20 rfl rfl ?_
      refine g_iload 24 dA_odds_22 rfl rfl ?_
      obtain ⟨t6, e6, h⟩ := x_bind h
      refine g_cV 27 (some (.int t6)) w [.int v5, .int v6] [] dA_odds_24 rfl (fun _ hK2 => mA_isValued (d - 1) (by omega) e6 hK2) (x_ob_some e1) kA_160 (x_rm (Nat.le_trans (by decide) hd) (by decide)) ⟨Nat.zero_le _, Nat.zero_le _⟩ (Nat.le_of_ble_eq_true rfl) rfl ?_
      by_cases c7 : t6 = (0 : Int32)
      · rw [if_pos c7] at h
        refine g_if_eq_t 39 dA_odds_27 (by decide) c7 ?_
        refine g_bipush 41 (-2 : Int32) dA_odds_39 rfl (by decide) ?_
        obtain rfl := Option.some.inj h
        exact g_iret rfl dA_odds_41 hK
      · rw [if_neg c7] at h
        refine g_if_eq_f 30 39 dA_odds_27 (by decide) rfl c7 ?_
        refine g_aload_n 31 (i := 0) dA_odds_30 rfl rfl rfl ?_
        refine g_iload 33 dA_odds_31 rfl rfl ?_
        refine g_cV 36 (some (.int (fA_isPart v0 v7))) w [.int v7] [] dA_odds_33 rfl (fun _ hK2 => mA_isPart (d - 1) (by omega) rfl hK2) (x_ob_some e1) kA_163 (x_rm (Nat.le_trans (by decide) hd) (by decide)) ⟨Nat.zero_le _, Nat.zero_le _⟩ (Nat.le_of_ble_eq_true rfl) rfl ?_
        by_cases c8 : (fA_isPart v0 v7) = (0 : Int32)
        · rw [if_pos c8] at h
          refine g_if_ne_f 39 42 dA_odds_36 (by decide) rfl c8 ?_
          refine g_bipush 41 (-2 : Int32) dA_odds_39 rfl (by decide) ?_
          obtain rfl := Option.some.inj h
          exact g_iret rfl dA_odds_41 hK
        · rw [if_neg c8] at h
          refine g_if_ne_t 42 dA_odds_36 (by decide) c8 ?_
          refine g_aload_n 43 (i := 0) dA_odds_42 rfl rfl rfl ?_
          obtain ⟨t9, e9, h⟩ := x_bind h
          refine g_getfR 46 0 4 dA_odds_43 rfl x_in0 tw_1_119 rfl (by decide) e9 ?_
          refine g_iload_n 47 (i := 3) dA_odds_46 rfl rfl rfl ?_
          refine g_iload 49 dA_odds_47 rfl rfl ?_
          refine g_iload 51 dA_odds_49 rfl rfl ?_
          refine g_iload 53 dA_odds_51 rfl rfl ?_
          obtain ⟨_, e10, h⟩ := x_bind h
          obtain ⟨w11, e11, h⟩ := x_bind h
          refine g_cV 56 none w11 [.int v3, .int v4, .int v5, .int v6] [] dA_odds_53 rfl (fun _ hK2 => mO_become (d - 1) (by omega) e11 hK2) (x_ob_some e10) kA_166 (x_rm (Nat.le_trans (by decide) hd) (by decide)) ⟨Nat.zero_le _, Nat.zero_le _⟩ (Nat.le_of_ble_eq_true rfl) rfl ?_
          refine g_aload_n 57 (i := 0) dA_odds_56 rfl rfl rfl ?_
          obtain ⟨t12, e12, h⟩ := x_bind h
          refine g_getfR 60 0 5 dA_odds_57 rfl x_in0 tw_1_120 rfl (by decide) e12 ?_
          refine g_iload_n 61 (i := 3) dA_odds_60 rfl rfl rfl ?_
          refine g_iload 63 dA_odds_61 rfl rfl ?_
          refine g_iload_n 64 (i := 1) dA_odds_63 rfl rfl rfl ?_
          refine g_iload_n 65 (i := 2) dA_odds_64 rfl rfl rfl ?_
          obtain ⟨_, e13, h⟩ := x_bind h
          obtain ⟨w14, e14, h⟩ := x_bind h
          refine g_cV 68 none w14 [.int v3, .int v4, .int v1, .int v2] [] dA_odds_65 rfl (fun _ hK2 => mO_become (d - 1) (by omega) e14 hK2) (x_ob_some e13) kA_166 (x_rm (Nat.le_trans (by decide) hd) (by decide)) ⟨Nat.zero_le _, Nat.zero_le _⟩ (Nat.le_of_ble_eq_true rfl) rfl ?_
          refine g_aload_n 69 (i := 0) dA_odds_68 rfl rfl rfl ?_
          refine g_iload 71 dA_odds_69 rfl rfl ?_
          obtain ⟨_, e15, h⟩ := x_bind h
          obtain ⟨t16, e16, h⟩ := x_bind h
          refine g_cV 74 (some (.int t16)) w14 [.int v7] [] dA_odds_71 rfl (fun _ hK2 => mA_oddsOfTwoGivenOne (d - 1) (by omega) e16 hK2) (x_ob_some e15) kA_170 (x_rm (Nat.le_trans (by decide) hd) (by decide)) ⟨Nat.zero_le _, Nat.zero_le _⟩ (Nat.le_of_ble_eq_true rfl) rfl ?_
          obtain rfl := Option.some.inj h
          exact g_iret rfl dA_odds_74 hK
/-! ActSurgery.would(IIIIIII)I: level X -/
theorem dA_would_0 : decode cA_would 0 = .ok (.aload_n 0, 1) := by decide +kernel
theorem dA_would_1 : decode cA_would 1 = .ok (.iload_n 1, 1) := by decide +kernel
theorem dA_would_2 : decode cA_would 2 = .ok (.iload_n 2, 1) := by decide +kernel
theorem dA_would_3 : decode cA_would 3 = .ok (.invokevirtual 160, 3) := by decide +kernel
theorem dA_would_6 : decode cA_would 6 = .ok (.ifCond .eq 33, 3) := by decide +kernel
theorem dA_would_9 : decode cA_would 9 = .ok (.aload_n 0, 1) := by decide +kernel
theorem dA_would_10 : decode cA_would 10 = .ok (.iload_n 3, 1) := by decide +kernel
theorem dA_would_11 : decode cA_would 11 = .ok (.iload 4, 2) := by decide +kernel
theorem dA_would_13 : decode cA_would 13 = .ok (.invokevirtual 160, 3) := by decide +kernel
theorem dA_would_16 : decode cA_would 16 = .ok (.ifCond .eq 23, 3) := by decide +kernel
theorem dA_would_19 : decode cA_would 19 = .ok (.aload_n 0, 1) := by decide +kernel
theorem dA_would_20 : decode cA_would 20 = .ok (.iload 5, 2) := by decide +kernel
theorem dA_would_22 : decode cA_would 22 = .ok (.iload 6, 2) := by decide +kernel
theorem dA_would_24 : decode cA_would 24 = .ok (.invokevirtual 160, 3) := by decide +kernel
theorem dA_would_27 : decode cA_would 27 = .ok (.ifCond .eq 12, 3) := by decide +kernel
theorem dA_would_30 : decode cA_would 30 = .ok (.aload_n 0, 1) := by decide +kernel
theorem dA_would_31 : decode cA_would 31 = .ok (.iload 7, 2) := by decide +kernel
theorem dA_would_33 : decode cA_would 33 = .ok (.invokevirtual 163, 3) := by decide +kernel
theorem dA_would_36 : decode cA_would 36 = .ok (.ifCond .ne 6, 3) := by decide +kernel
theorem dA_would_39 : decode cA_would 39 = .ok (.bipush (-2), 2) := by decide +kernel
theorem dA_would_41 : decode cA_would 41 = .ok (.ireturn, 1) := by decide +kernel
theorem dA_would_42 : decode cA_would 42 = .ok (.aload_n 0, 1) := by decide +kernel
theorem dA_would_43 : decode cA_would 43 = .ok (.getfield 36, 3) := by decide +kernel
theorem dA_would_46 : decode cA_would 46 = .ok (.iconst 0, 1) := by decide +kernel
theorem dA_would_47 : decode cA_would 47 = .ok (.iconst 0, 1) := by decide +kernel
theorem dA_would_48 : decode cA_would 48 = .ok (.iload 5, 2) := by decide +kernel
theorem dA_would_50 : decode cA_would 50 = .ok (.iload 6, 2) := by decide +kernel
theorem dA_would_52 : decode cA_would 52 = .ok (.invokevirtual 166, 3) := by decide +kernel
theorem dA_would_55 : decode cA_would 55 = .ok (.aload_n 0, 1) := by decide +kernel
theorem dA_would_56 : decode cA_would 56 = .ok (.getfield 40, 3) := by decide +kernel
theorem dA_would_59 : decode cA_would 59 = .ok (.iload_n 3, 1) := by decide +kernel
theorem dA_would_60 : decode cA_would 60 = .ok (.iload 4, 2) := by decide +kernel
theorem dA_would_62 : decode cA_would 62 = .ok (.iload_n 1, 1) := by decide +kernel
theorem dA_would_63 : decode cA_would 63 = .ok (.iload_n 2, 1) := by decide +kernel
theorem dA_would_64 : decode cA_would 64 = .ok (.invokevirtual 166, 3) := by decide +kernel
theorem dA_would_67 : decode cA_would 67 = .ok (.aload_n 0, 1) := by decide +kernel
theorem dA_would_68 : decode cA_would 68 = .ok (.iload 7, 2) := by decide +kernel
theorem dA_would_70 : decode cA_would 70 = .ok (.invokevirtual 170, 3) := by decide +kernel
theorem dA_would_73 : decode cA_would 73 = .ok (.ireturn, 1) := by decide +kernel
def fA_would  (w : x_W) (v0 : Nat) (v1 : Int32) (v2 : Int32) (v3 : Int32) (v4 : Int32) (v5 : Int32) (v6 : Int32) (v7 : Int32) : Option (Int32 × x_W) :=
  (x_ob w v0 0).bind fun _ =>
  (fA_isValued w v0 v1 v2).bind fun t2 =>
  if t2 = (0 : Int32) then
    some ((-2 : Int32), w)
  else
    (fA_isValued w v0 v3 v4).bind fun t4 =>
    if t4 = (0 : Int32) then
      some ((-2 : Int32), w)
    else
      (fA_isValued w v0 v5 v6).bind fun t6 =>
      if t6 = (0 : Int32) then
        some ((-2 : Int32), w)
      else
        if (fA_isPart v0 v7) = (0 : Int32) then
          some ((-2 : Int32), w)
        else
          (x_fr w v0 0 4).bind fun t9 =>
          (x_ob w t9 3).bind fun _ =>
          (fO_become w t9 (0 : Int32) (0 : Int32) v5 v6).bind fun w11 =>
          (x_fr w11 v0 0 5).bind fun t12 =>
          (x_ob w11 t12 3).bind fun _ =>
          (fO_become w11 t12 v3 v4 v1 v2).bind fun w14 =>
          (x_ob w14 v0 0).bind fun _ =>
          (fA_oddsOfTwoGivenOne w14 v0 v7).bind fun t16 =>
          some (t16, w14)
set_option maxHeartbeats 4000000 in
set_option maxRecDepth 100000 in
theorem mA_would (d : Nat) (hd : 14 ≤ d) {K : Option Value → x_W → Prop} {w : x_W} {v0 : Nat} {v1 : Int32} {v2 : Int32} {v3 : Int32} {v4 : Int32} {v5 : Int32} {v6 : Int32} {v7 : Int32} {r : (Int32 × x_W)} (h : fA_would w v0 v1 v2 v3 v4 v5 v6 v7 = some r) (hK : K (some (.int r.1)) r.2) : x_M yA_would cA_would 8 (some .int) d 0 0 [.ref v0, .int v1, .int v2, .int v3, .int v4, .int v5, .int v6, .int v7] w K := by
  refine x_M.of [some (.ref v0), some (.int v1), some (.int v2), some (.int v3), some (.int v4), some (.int v5), some (.int v6), some (.int v7)] (by decide) rfl (Nat.le_of_ble_eq_true rfl) ?_
  unfold fA_would at h
  refine g_aload_n 1 (i := 0) dA_would_0 rfl rfl rfl ?_
  refine g_iload_n 2 (i := 1) dA_would_1 rfl rfl rfl ?_
  refine g_iload_n 3 (i := 2) dA_would_2 rfl rfl rfl ?_
  obtain ⟨_, e1, h⟩ := x_bind h
  obtain ⟨t2, e2, h⟩ := x_bind h
  refine g_cV 6 (some (.int t2)) w [.int v1, .int v2] [] dA_would_3 rfl (fun _ hK2 => mA_isValued (d - 1) (by omega) e2 hK2) (x_ob_some e1) kA_160 (x_rm (Nat.le_trans (by decide) hd) (by decide)) ⟨Nat.zero_le _, Nat.zero_le _⟩ (Nat.le_of_ble_eq_true rfl) rfl ?_
  by_cases c3 : t2 = (0 : Int32)
  · rw [if_pos c3] at h
    refine g_if_eq_t 39 dA_would_6 (by decide) c3 ?_
    refine g_bipush 41 (-2 : Int32) dA_would_39 rfl (by decide) ?_
    obtain rfl := Option.some.inj h
    exact g_iret rfl dA_would_41 hK
  · rw [if_neg c3] at h
    refine g_if_eq_f 9 39 dA_would_6 (by decide) rfl c3 ?_
    refine g_aload_n 10 (i := 0) dA_would_9 rfl rfl rfl ?_
    refine g_iload_n 11 (i := 3) dA_would_10 rfl rfl rfl ?_
    refine g_iload 13 dA_would_11 rfl rfl ?_
    obtain ⟨t4, e4, h⟩ := x_bind h
    refine g_cV 16 (some (.int t4)) w [.int v3, .int v4] [] dA_would_13 rfl (fun _ hK2 => mA_isValued (d - 1) (by omega) e4 hK2) (x_ob_some e1) kA_160 (x_rm (Nat.le_trans (by decide) hd) (by decide)) ⟨Nat.zero_le _, Nat.zero_le _⟩ (Nat.le_of_ble_eq_true rfl) rfl ?_
    by_cases c5 : t4 = (0 : Int32)
    · rw [if_pos c5] at h
      refine g_if_eq_t 39 dA_would_16 (by decide) c5 ?_
      refine g_bipush 41 (-2 : Int32) dA_would_39 rfl (by decide) ?_
      obtain rfl := Option.some.inj h
      exact g_iret rfl dA_would_41 hK
    · rw [if_neg c5] at h
      refine g_if_eq_f 19 39 dA_would_16 (by decide) rfl c5 ?_
      refine g_aload_n 20 (i := 0) dA_would_19 rfl rfl rfl ?_
      refine g_iload 22 dA_would_20 rfl rfl ?_
      refine g_iload 24 dA_would_22 rfl rfl ?_
      obtain ⟨t6, e6, h⟩ := x_bind h
      refine g_cV 27 (some (.int t6)) w [.int v5, .int v6] [] dA_would_24 rfl (fun _ hK2 => mA_isValued (d - 1) (by omega) e6 hK2) (x_ob_some e1) kA_160 (x_rm (Nat.le_trans (by decide) hd) (by decide)) ⟨Nat.zero_le _, Nat.zero_le _⟩ (Nat.le_of_ble_eq_true rfl) rfl ?_
      by_cases c7 : t6 = (0 : Int32)
      · rw [if_pos c7] at h
        refine g_if_eq_t 39 dA_would_27 (by decide) c7 ?_
        refine g_bipush 41 (-2 : Int32) dA_would_39 rfl (by decide) ?_
        obtain rfl := Option.some.inj h
        exact g_iret rfl dA_would_41 hK
      · rw [if_neg c7] at h
        refine g_if_eq_f 30 39 dA_would_27 (by decide) rfl c7 ?_
        refine g_aload_n 31 (i := 0) dA_would_30 rfl rfl rfl ?_
        refine g_iload 33 dA_would_31 rfl rfl ?_
        refine g_cV 36 (some (.int (fA_isPart v0 v7))) w [.int v7] [] dA_would_33 rfl (fun _ hK2 => mA_isPart (d - 1) (by omega) rfl hK2) (x_ob_some e1) kA_163 (x_rm (Nat.le_trans (by decide) hd) (by decide)) ⟨Nat.zero_le _, Nat.zero_le _⟩ (Nat.le_of_ble_eq_true rfl) rfl ?_
        by_cases c8 : (fA_isPart v0 v7) = (0 : Int32)
        · rw [if_pos c8] at h
          refine g_if_ne_f 39 42 dA_would_36 (by decide) rfl c8 ?_
          refine g_bipush 41 (-2 : Int32) dA_would_39 rfl (by decide) ?_
          obtain rfl := Option.some.inj h
          exact g_iret rfl dA_would_41 hK
        · rw [if_neg c8] at h
          refine g_if_ne_t 42 dA_would_36 (by decide) c8 ?_
          refine g_aload_n 43 (i := 0) dA_would_42 rfl rfl rfl ?_
          obtain ⟨t9, e9, h⟩ := x_bind h
          refine g_getfR 46 0 4 dA_would_43 rfl x_in0 tw_1_119 rfl (by decide) e9 ?_
          refine g_iconst 47 (0 : Int32) dA_would_46 rfl (by decide) ?_
          refine g_iconst 48 (0 : Int32) dA_would_47 rfl (by decide) ?_
          refine g_iload 50 dA_would_48 rfl rfl ?_
          refine g_iload 52 dA_would_50 rfl rfl ?_
          obtain ⟨_, e10, h⟩ := x_bind h
          obtain ⟨w11, e11, h⟩ := x_bind h
          refine g_cV 55 none w11 [.int (0 : Int32), .int (0 : Int32), .int v5, .int v6] [] dA_would_52 rfl (fun _ hK2 => mO_become (d - 1) (by omega) e11 hK2) (x_ob_some e10) kA_166 (x_rm (Nat.le_trans (by decide) hd) (by decide)) ⟨Nat.zero_le _, Nat.zero_le _⟩ (Nat.le_of_ble_eq_true rfl) rfl ?_
          refine g_aload_n 56 (i := 0) dA_would_55 rfl rfl rfl ?_
          obtain ⟨t12, e12, h⟩ := x_bind h
          refine g_getfR 59 0 5 dA_would_56 rfl x_in0 tw_1_120 rfl (by decide) e12 ?_
          refine g_iload_n 60 (i := 3) dA_would_59 rfl rfl rfl ?_
          refine g_iload 62 dA_would_60 rfl rfl ?_
          refine g_iload_n 63 (i := 1) dA_would_62 rfl rfl rfl ?_
          refine g_iload_n 64 (i := 2) dA_would_63 rfl rfl rfl ?_
          obtain ⟨_, e13, h⟩ := x_bind h
          obtain ⟨w14, e14, h⟩ := x_bind h
          refine g_cV 67 none w14 [.int v3, .int v4, .int v1, .int v2] [] dA_would_64 rfl (fun _ hK2 => mO_become (d - 1) (by omega) e14 hK2) (x_ob_some e13) kA_166 (x_rm (Nat.le_trans (by decide) hd) (by decide)) ⟨Nat.zero_le _, Nat.zero_le _⟩ (Nat.le_of_ble_eq_true rfl) rfl ?_
          refine g_aload_n 68 (i := 0) dA_would_67 rfl rfl rfl ?_
          refine g_iload 70 dA_would_68 rfl rfl ?_
          obtain ⟨_, e15, h⟩ := x_bind h
          obtain ⟨t16, e16, h⟩ := x_bind h
          refine g_cV 73 (some (.int t16)) w14 [.int v7] [] dA_would_70 rfl (fun _ hK2 => mA_oddsOfTwoGivenOne (d - 1) (by omega) e16 hK2) (x_ob_some e15) kA_170 (x_rm (Nat.le_trans (by decide) hd) (by decide)) ⟨Nat.zero_le _, Nat.zero_le _⟩ (Nat.le_of_ble_eq_true rfl) rfl ?_
          obtain rfl := Option.some.inj h
          exact g_iret rfl dA_would_73 hK
/-! ActSurgery.effect(II)I: level X -/
theorem dA_effect_0 : decode cA_effect 0 = .ok (.aload_n 0, 1) := by decide +kernel
theorem dA_effect_1 : decode cA_effect 1 = .ok (.iload_n 1, 1) := by decide +kernel
theorem dA_effect_2 : decode cA_effect 2 = .ok (.iload_n 2, 1) := by decide +kernel
theorem dA_effect_3 : decode cA_effect 3 = .ok (.invokevirtual 134, 3) := by decide +kernel
theorem dA_effect_6 : decode cA_effect 6 = .ok (.ifCond .ne 6, 3) := by decide +kernel
theorem dA_effect_9 : decode cA_effect 9 = .ok (.bipush (-2), 2) := by decide +kernel
theorem dA_effect_11 : decode cA_effect 11 = .ok (.ireturn, 1) := by decide +kernel
theorem dA_effect_12 : decode cA_effect 12 = .ok (.aload_n 0, 1) := by decide +kernel
theorem dA_effect_13 : decode cA_effect 13 = .ok (.getfield 36, 3) := by decide +kernel
theorem dA_effect_16 : decode cA_effect 16 = .ok (.iconst 1, 1) := by decide +kernel
theorem dA_effect_17 : decode cA_effect 17 = .ok (.iload_n 1, 1) := by decide +kernel
theorem dA_effect_18 : decode cA_effect 18 = .ok (.ishl, 1) := by decide +kernel
theorem dA_effect_19 : decode cA_effect 19 = .ok (.iconst 1, 1) := by decide +kernel
theorem dA_effect_20 : decode cA_effect 20 = .ok (.iload_n 1, 1) := by decide +kernel
theorem dA_effect_21 : decode cA_effect 21 = .ok (.ishl, 1) := by decide +kernel
theorem dA_effect_22 : decode cA_effect 22 = .ok (.iconst 1, 1) := by decide +kernel
theorem dA_effect_23 : decode cA_effect 23 = .ok (.iload_n 2, 1) := by decide +kernel
theorem dA_effect_24 : decode cA_effect 24 = .ok (.ishl, 1) := by decide +kernel
theorem dA_effect_25 : decode cA_effect 25 = .ok (.iconst 1, 1) := by decide +kernel
theorem dA_effect_26 : decode cA_effect 26 = .ok (.iload_n 2, 1) := by decide +kernel
theorem dA_effect_27 : decode cA_effect 27 = .ok (.ishl, 1) := by decide +kernel
theorem dA_effect_28 : decode cA_effect 28 = .ok (.invokevirtual 166, 3) := by decide +kernel
theorem dA_effect_31 : decode cA_effect 31 = .ok (.aload_n 0, 1) := by decide +kernel
theorem dA_effect_32 : decode cA_effect 32 = .ok (.getfield 40, 3) := by decide +kernel
theorem dA_effect_35 : decode cA_effect 35 = .ok (.iconst 1, 1) := by decide +kernel
theorem dA_effect_36 : decode cA_effect 36 = .ok (.iload_n 1, 1) := by decide +kernel
theorem dA_effect_37 : decode cA_effect 37 = .ok (.ishl, 1) := by decide +kernel
theorem dA_effect_38 : decode cA_effect 38 = .ok (.iconst 0, 1) := by decide +kernel
theorem dA_effect_39 : decode cA_effect 39 = .ok (.iconst 1, 1) := by decide +kernel
theorem dA_effect_40 : decode cA_effect 40 = .ok (.iload_n 2, 1) := by decide +kernel
theorem dA_effect_41 : decode cA_effect 41 = .ok (.ishl, 1) := by decide +kernel
theorem dA_effect_42 : decode cA_effect 42 = .ok (.iconst 1, 1) := by decide +kernel
theorem dA_effect_43 : decode cA_effect 43 = .ok (.iload_n 2, 1) := by decide +kernel
theorem dA_effect_44 : decode cA_effect 44 = .ok (.ishl, 1) := by decide +kernel
theorem dA_effect_45 : decode cA_effect 45 = .ok (.invokevirtual 166, 3) := by decide +kernel
theorem dA_effect_48 : decode cA_effect 48 = .ok (.aload_n 0, 1) := by decide +kernel
theorem dA_effect_49 : decode cA_effect 49 = .ok (.getfield 10, 3) := by decide +kernel
theorem dA_effect_52 : decode cA_effect 52 = .ok (.aload_n 0, 1) := by decide +kernel
theorem dA_effect_53 : decode cA_effect 53 = .ok (.getfield 36, 3) := by decide +kernel
theorem dA_effect_56 : decode cA_effect 56 = .ok (.aload_n 0, 1) := by decide +kernel
theorem dA_effect_57 : decode cA_effect 57 = .ok (.getfield 36, 3) := by decide +kernel
theorem dA_effect_60 : decode cA_effect 60 = .ok (.invokevirtual 173, 3) := by decide +kernel
theorem dA_effect_63 : decode cA_effect 63 = .ok (.aload_n 0, 1) := by decide +kernel
theorem dA_effect_64 : decode cA_effect 64 = .ok (.getfield 10, 3) := by decide +kernel
theorem dA_effect_67 : decode cA_effect 67 = .ok (.aload_n 0, 1) := by decide +kernel
theorem dA_effect_68 : decode cA_effect 68 = .ok (.getfield 40, 3) := by decide +kernel
theorem dA_effect_71 : decode cA_effect 71 = .ok (.aload_n 0, 1) := by decide +kernel
theorem dA_effect_72 : decode cA_effect 72 = .ok (.getfield 40, 3) := by decide +kernel
theorem dA_effect_75 : decode cA_effect 75 = .ok (.invokevirtual 173, 3) := by decide +kernel
theorem dA_effect_78 : decode cA_effect 78 = .ok (.isub, 1) := by decide +kernel
theorem dA_effect_79 : decode cA_effect 79 = .ok (.ireturn, 1) := by decide +kernel
def fA_effect  (w : x_W) (v0 : Nat) (v1 : Int32) (v2 : Int32) : Option (Int32 × x_W) :=
  (x_ob w v0 0).bind fun _ =>
  (fA_isPair w v0 v1 v2).bind fun t2 =>
  if t2 = (0 : Int32) then
    some ((-2 : Int32), w)
  else
    (x_fr w v0 0 4).bind fun t4 =>
    (x_ob w t4 3).bind fun _ =>
    (fO_become w t4 ((1 : Int32) <<< (v1 &&& 31)) ((1 : Int32) <<< (v1 &&& 31)) ((1 : Int32) <<< (v2 &&& 31)) ((1 : Int32) <<< (v2 &&& 31))).bind fun w6 =>
    (x_fr w6 v0 0 5).bind fun t7 =>
    (x_ob w6 t7 3).bind fun _ =>
    (fO_become w6 t7 ((1 : Int32) <<< (v1 &&& 31)) (0 : Int32) ((1 : Int32) <<< (v2 &&& 31)) ((1 : Int32) <<< (v2 &&& 31))).bind fun w9 =>
    (x_fr w9 v0 0 0).bind fun t10 =>
    (x_fr w9 v0 0 4).bind fun t11 =>
    (x_ob w9 t10 2).bind fun _ =>
    (fG_drawsOfBoth w9 t10 t11 t11).bind fun t13 =>
    (x_fr w9 v0 0 5).bind fun t14 =>
    (fG_drawsOfBoth w9 t10 t14 t14).bind fun t15 =>
    some ((t13 - t15), w9)
set_option maxHeartbeats 4000000 in
set_option maxRecDepth 100000 in
theorem mA_effect (d : Nat) (hd : 13 ≤ d) {K : Option Value → x_W → Prop} {w : x_W} {v0 : Nat} {v1 : Int32} {v2 : Int32} {r : (Int32 × x_W)} (h : fA_effect w v0 v1 v2 = some r) (hK : K (some (.int r.1)) r.2) : x_M yA_effect cA_effect 3 (some .int) d 0 0 [.ref v0, .int v1, .int v2] w K := by
  refine x_M.of [some (.ref v0), some (.int v1), some (.int v2)] (by decide) rfl (Nat.le_of_ble_eq_true rfl) ?_
  unfold fA_effect at h
  refine g_aload_n 1 (i := 0) dA_effect_0 rfl rfl rfl ?_
  refine g_iload_n 2 (i := 1) dA_effect_1 rfl rfl rfl ?_
  refine g_iload_n 3 (i := 2) dA_effect_2 rfl rfl rfl ?_
  obtain ⟨_, e1, h⟩ := x_bind h
  obtain ⟨t2, e2, h⟩ := x_bind h
  refine g_cV 6 (some (.int t2)) w [.int v1, .int v2] [] dA_effect_3 rfl (fun _ hK2 => mA_isPair (d - 1) (by omega) e2 hK2) (x_ob_some e1) kA_134 (x_rm (Nat.le_trans (by decide) hd) (by decide)) ⟨Nat.zero_le _, Nat.zero_le _⟩ (Nat.le_of_ble_eq_true rfl) rfl ?_
  by_cases c3 : t2 = (0 : Int32)
  · rw [if_pos c3] at h
    refine g_if_ne_f 9 12 dA_effect_6 (by decide) rfl c3 ?_
    refine g_bipush 11 (-2 : Int32) dA_effect_9 rfl (by decide) ?_
    obtain rfl := Option.some.inj h
    exact g_iret rfl dA_effect_11 hK
  · rw [if_neg c3] at h
    refine g_if_ne_t 12 dA_effect_6 (by decide) c3 ?_
    refine g_aload_n 13 (i := 0) dA_effect_12 rfl rfl rfl ?_
    obtain ⟨t4, e4, h⟩ := x_bind h
    refine g_getfR 16 0 4 dA_effect_13 rfl x_in0 tw_1_119 rfl (by decide) e4 ?_
    refine g_iconst 17 (1 : Int32) dA_effect_16 rfl (by decide) ?_
    refine g_iload_n 18 (i := 1) dA_effect_17 rfl rfl rfl ?_
    refine g_ishl 19 dA_effect_18 rfl ?_
    refine g_iconst 20 (1 : Int32) dA_effect_19 rfl (by decide) ?_
    refine g_iload_n 21 (i := 1) dA_effect_20 rfl rfl rfl ?_
    refine g_ishl 22 dA_effect_21 rfl ?_
    refine g_iconst 23 (1 : Int32) dA_effect_22 rfl (by decide) ?_
    refine g_iload_n 24 (i := 2) dA_effect_23 rfl rfl rfl ?_
    refine g_ishl 25 dA_effect_24 rfl ?_
    refine g_iconst 26 (1 : Int32) dA_effect_25 rfl (by decide) ?_
    refine g_iload_n 27 (i := 2) dA_effect_26 rfl rfl rfl ?_
    refine g_ishl 28 dA_effect_27 rfl ?_
    obtain ⟨_, e5, h⟩ := x_bind h
    obtain ⟨w6, e6, h⟩ := x_bind h
    refine g_cV 31 none w6 [.int ((1 : Int32) <<< (v1 &&& 31)), .int ((1 : Int32) <<< (v1 &&& 31)), .int ((1 : Int32) <<< (v2 &&& 31)), .int ((1 : Int32) <<< (v2 &&& 31))] [] dA_effect_28 rfl (fun _ hK2 => mO_become (d - 1) (by omega) e6 hK2) (x_ob_some e5) kA_166 (x_rm (Nat.le_trans (by decide) hd) (by decide)) ⟨Nat.zero_le _, Nat.zero_le _⟩ (Nat.le_of_ble_eq_true rfl) rfl ?_
    refine g_aload_n 32 (i := 0) dA_effect_31 rfl rfl rfl ?_
    obtain ⟨t7, e7, h⟩ := x_bind h
    refine g_getfR 35 0 5 dA_effect_32 rfl x_in0 tw_1_120 rfl (by decide) e7 ?_
    refine g_iconst 36 (1 : Int32) dA_effect_35 rfl (by decide) ?_
    refine g_iload_n 37 (i := 1) dA_effect_36 rfl rfl rfl ?_
    refine g_ishl 38 dA_effect_37 rfl ?_
    refine g_iconst 39 (0 : Int32) dA_effect_38 rfl (by decide) ?_
    refine g_iconst 40 (1 : Int32) dA_effect_39 rfl (by decide) ?_
    refine g_iload_n 41 (i := 2) dA_effect_40 rfl rfl rfl ?_
    refine g_ishl 42 dA_effect_41 rfl ?_
    refine g_iconst 43 (1 : Int32) dA_effect_42 rfl (by decide) ?_
    refine g_iload_n 44 (i := 2) dA_effect_43 rfl rfl rfl ?_
    refine g_ishl 45 dA_effect_44 rfl ?_
    obtain ⟨_, e8, h⟩ := x_bind h
    obtain ⟨w9, e9, h⟩ := x_bind h
    refine g_cV 48 none w9 [.int ((1 : Int32) <<< (v1 &&& 31)), .int (0 : Int32), .int ((1 : Int32) <<< (v2 &&& 31)), .int ((1 : Int32) <<< (v2 &&& 31))] [] dA_effect_45 rfl (fun _ hK2 => mO_become (d - 1) (by omega) e9 hK2) (x_ob_some e8) kA_166 (x_rm (Nat.le_trans (by decide) hd) (by decide)) ⟨Nat.zero_le _, Nat.zero_le _⟩ (Nat.le_of_ble_eq_true rfl) rfl ?_
    refine g_aload_n 49 (i := 0) dA_effect_48 rfl rfl rfl ?_
    obtain ⟨t10, e10, h⟩ := x_bind h
    refine g_getfR 52 0 0 dA_effect_49 rfl x_in0 tw_1_115 rfl (by decide) e10 ?_
    refine g_aload_n 53 (i := 0) dA_effect_52 rfl rfl rfl ?_
    obtain ⟨t11, e11, h⟩ := x_bind h
    refine g_getfR 56 0 4 dA_effect_53 rfl x_in0 tw_1_119 rfl (by decide) e11 ?_
    refine g_aload_n 57 (i := 0) dA_effect_56 rfl rfl rfl ?_
    refine g_getfR 60 0 4 dA_effect_57 rfl x_in0 tw_1_119 rfl (by decide) e11 ?_
    obtain ⟨_, e12, h⟩ := x_bind h
    obtain ⟨t13, e13, h⟩ := x_bind h
    refine g_cV 63 (some (.int t13)) w9 [.ref t11, .ref t11] [] dA_effect_60 rfl (fun _ hK2 => mG_drawsOfBoth (d - 1) (by omega) e13 hK2) (x_ob_some e12) kA_173 (x_rm (Nat.le_trans (by decide) hd) (by decide)) ⟨Nat.zero_le _, Nat.zero_le _⟩ (Nat.le_of_ble_eq_true rfl) rfl ?_
    refine g_aload_n 64 (i := 0) dA_effect_63 rfl rfl rfl ?_
    refine g_getfR 67 0 0 dA_effect_64 rfl x_in0 tw_1_115 rfl (by decide) e10 ?_
    refine g_aload_n 68 (i := 0) dA_effect_67 rfl rfl rfl ?_
    obtain ⟨t14, e14, h⟩ := x_bind h
    refine g_getfR 71 0 5 dA_effect_68 rfl x_in0 tw_1_120 rfl (by decide) e14 ?_
    refine g_aload_n 72 (i := 0) dA_effect_71 rfl rfl rfl ?_
    refine g_getfR 75 0 5 dA_effect_72 rfl x_in0 tw_1_120 rfl (by decide) e14 ?_
    obtain ⟨t15, e15, h⟩ := x_bind h
    refine g_cV 78 (some (.int t15)) w9 [.ref t14, .ref t14] [.int t13] dA_effect_75 rfl (fun _ hK2 => mG_drawsOfBoth (d - 1) (by omega) e15 hK2) (x_ob_some e12) kA_173 (x_rm (Nat.le_trans (by decide) hd) (by decide)) ⟨Nat.zero_le _, Nat.zero_le _⟩ (Nat.le_of_ble_eq_true rfl) rfl ?_
    refine g_isub 79 dA_effect_78 rfl ?_
    obtain rfl := Option.some.inj h
    exact g_iret rfl dA_effect_79 hK
/-! ActSurgery.swayed(II)I: level X -/
theorem dA_swayed_0 : decode cA_swayed 0 = .ok (.aload_n 0, 1) := by decide +kernel
theorem dA_swayed_1 : decode cA_swayed 1 = .ok (.iload_n 1, 1) := by decide +kernel
theorem dA_swayed_2 : decode cA_swayed 2 = .ok (.iload_n 2, 1) := by decide +kernel
theorem dA_swayed_3 : decode cA_swayed 3 = .ok (.invokevirtual 134, 3) := by decide +kernel
theorem dA_swayed_6 : decode cA_swayed 6 = .ok (.ifCond .ne 6, 3) := by decide +kernel
theorem dA_swayed_9 : decode cA_swayed 9 = .ok (.bipush (-2), 2) := by decide +kernel
theorem dA_swayed_11 : decode cA_swayed 11 = .ok (.ireturn, 1) := by decide +kernel
theorem dA_swayed_12 : decode cA_swayed 12 = .ok (.aload_n 0, 1) := by decide +kernel
theorem dA_swayed_13 : decode cA_swayed 13 = .ok (.getfield 36, 3) := by decide +kernel
theorem dA_swayed_16 : decode cA_swayed 16 = .ok (.iconst 1, 1) := by decide +kernel
theorem dA_swayed_17 : decode cA_swayed 17 = .ok (.iload_n 1, 1) := by decide +kernel
theorem dA_swayed_18 : decode cA_swayed 18 = .ok (.ishl, 1) := by decide +kernel
theorem dA_swayed_19 : decode cA_swayed 19 = .ok (.iconst 1, 1) := by decide +kernel
theorem dA_swayed_20 : decode cA_swayed 20 = .ok (.iload_n 1, 1) := by decide +kernel
theorem dA_swayed_21 : decode cA_swayed 21 = .ok (.ishl, 1) := by decide +kernel
theorem dA_swayed_22 : decode cA_swayed 22 = .ok (.iconst 1, 1) := by decide +kernel
theorem dA_swayed_23 : decode cA_swayed 23 = .ok (.iload_n 2, 1) := by decide +kernel
theorem dA_swayed_24 : decode cA_swayed 24 = .ok (.ishl, 1) := by decide +kernel
theorem dA_swayed_25 : decode cA_swayed 25 = .ok (.iconst 1, 1) := by decide +kernel
theorem dA_swayed_26 : decode cA_swayed 26 = .ok (.iload_n 2, 1) := by decide +kernel
theorem dA_swayed_27 : decode cA_swayed 27 = .ok (.ishl, 1) := by decide +kernel
theorem dA_swayed_28 : decode cA_swayed 28 = .ok (.invokevirtual 166, 3) := by decide +kernel
theorem dA_swayed_31 : decode cA_swayed 31 = .ok (.aload_n 0, 1) := by decide +kernel
theorem dA_swayed_32 : decode cA_swayed 32 = .ok (.getfield 40, 3) := by decide +kernel
theorem dA_swayed_35 : decode cA_swayed 35 = .ok (.iconst 1, 1) := by decide +kernel
theorem dA_swayed_36 : decode cA_swayed 36 = .ok (.iload_n 1, 1) := by decide +kernel
theorem dA_swayed_37 : decode cA_swayed 37 = .ok (.ishl, 1) := by decide +kernel
theorem dA_swayed_38 : decode cA_swayed 38 = .ok (.iconst 0, 1) := by decide +kernel
theorem dA_swayed_39 : decode cA_swayed 39 = .ok (.iconst 1, 1) := by decide +kernel
theorem dA_swayed_40 : decode cA_swayed 40 = .ok (.iload_n 2, 1) := by decide +kernel
theorem dA_swayed_41 : decode cA_swayed 41 = .ok (.ishl, 1) := by decide +kernel
theorem dA_swayed_42 : decode cA_swayed 42 = .ok (.iconst 0, 1) := by decide +kernel
theorem dA_swayed_43 : decode cA_swayed 43 = .ok (.invokevirtual 166, 3) := by decide +kernel
theorem dA_swayed_46 : decode cA_swayed 46 = .ok (.aload_n 0, 1) := by decide +kernel
theorem dA_swayed_47 : decode cA_swayed 47 = .ok (.getfield 10, 3) := by decide +kernel
theorem dA_swayed_50 : decode cA_swayed 50 = .ok (.aload_n 0, 1) := by decide +kernel
theorem dA_swayed_51 : decode cA_swayed 51 = .ok (.getfield 36, 3) := by decide +kernel
theorem dA_swayed_54 : decode cA_swayed 54 = .ok (.aload_n 0, 1) := by decide +kernel
theorem dA_swayed_55 : decode cA_swayed 55 = .ok (.getfield 40, 3) := by decide +kernel
theorem dA_swayed_58 : decode cA_swayed 58 = .ok (.invokevirtual 173, 3) := by decide +kernel
theorem dA_swayed_61 : decode cA_swayed 61 = .ok (.ireturn, 1) := by decide +kernel
def fA_swayed  (w : x_W) (v0 : Nat) (v1 : Int32) (v2 : Int32) : Option (Int32 × x_W) :=
  (x_ob w v0 0).bind fun _ =>
  (fA_isPair w v0 v1 v2).bind fun t2 =>
  if t2 = (0 : Int32) then
    some ((-2 : Int32), w)
  else
    (x_fr w v0 0 4).bind fun t4 =>
    (x_ob w t4 3).bind fun _ =>
    (fO_become w t4 ((1 : Int32) <<< (v1 &&& 31)) ((1 : Int32) <<< (v1 &&& 31)) ((1 : Int32) <<< (v2 &&& 31)) ((1 : Int32) <<< (v2 &&& 31))).bind fun w6 =>
    (x_fr w6 v0 0 5).bind fun t7 =>
    (x_ob w6 t7 3).bind fun _ =>
    (fO_become w6 t7 ((1 : Int32) <<< (v1 &&& 31)) (0 : Int32) ((1 : Int32) <<< (v2 &&& 31)) (0 : Int32)).bind fun w9 =>
    (x_fr w9 v0 0 0).bind fun t10 =>
    (x_fr w9 v0 0 4).bind fun t11 =>
    (x_fr w9 v0 0 5).bind fun t12 =>
    (x_ob w9 t10 2).bind fun _ =>
    (fG_drawsOfBoth w9 t10 t11 t12).bind fun t14 =>
    some (t14, w9)
set_option maxHeartbeats 4000000 in
set_option maxRecDepth 100000 in
theorem mA_swayed (d : Nat) (hd : 13 ≤ d) {K : Option Value → x_W → Prop} {w : x_W} {v0 : Nat} {v1 : Int32} {v2 : Int32} {r : (Int32 × x_W)} (h : fA_swayed w v0 v1 v2 = some r) (hK : K (some (.int r.1)) r.2) : x_M yA_swayed cA_swayed 3 (some .int) d 0 0 [.ref v0, .int v1, .int v2] w K := by
  refine x_M.of [some (.ref v0), some (.int v1), some (.int v2)] (by decide) rfl (Nat.le_of_ble_eq_true rfl) ?_
  unfold fA_swayed at h
  refine g_aload_n 1 (i := 0) dA_swayed_0 rfl rfl rfl ?_
  refine g_iload_n 2 (i := 1) dA_swayed_1 rfl rfl rfl ?_
  refine g_iload_n 3 (i := 2) dA_swayed_2 rfl rfl rfl ?_
  obtain ⟨_, e1, h⟩ := x_bind h
  obtain ⟨t2, e2, h⟩ := x_bind h
  refine g_cV 6 (some (.int t2)) w [.int v1, .int v2] [] dA_swayed_3 rfl (fun _ hK2 => mA_isPair (d - 1) (by omega) e2 hK2) (x_ob_some e1) kA_134 (x_rm (Nat.le_trans (by decide) hd) (by decide)) ⟨Nat.zero_le _, Nat.zero_le _⟩ (Nat.le_of_ble_eq_true rfl) rfl ?_
  by_cases c3 : t2 = (0 : Int32)
  · rw [if_pos c3] at h
    refine g_if_ne_f 9 12 dA_swayed_6 (by decide) rfl c3 ?_
    refine g_bipush 11 (-2 : Int32) dA_swayed_9 rfl (by decide) ?_
    obtain rfl := Option.some.inj h
    exact g_iret rfl dA_swayed_11 hK
  · rw [if_neg c3] at h
    refine g_if_ne_t 12 dA_swayed_6 (by decide) c3 ?_
    refine g_aload_n 13 (i := 0) dA_swayed_12 rfl rfl rfl ?_
    obtain ⟨t4, e4, h⟩ := x_bind h
    refine g_getfR 16 0 4 dA_swayed_13 rfl x_in0 tw_1_119 rfl (by decide) e4 ?_
    refine g_iconst 17 (1 : Int32) dA_swayed_16 rfl (by decide) ?_
    refine g_iload_n 18 (i := 1) dA_swayed_17 rfl rfl rfl ?_
    refine g_ishl 19 dA_swayed_18 rfl ?_
    refine g_iconst 20 (1 : Int32) dA_swayed_19 rfl (by decide) ?_
    refine g_iload_n 21 (i := 1) dA_swayed_20 rfl rfl rfl ?_
    refine g_ishl 22 dA_swayed_21 rfl ?_
    refine g_iconst 23 (1 : Int32) dA_swayed_22 rfl (by decide) ?_
    refine g_iload_n 24 (i := 2) dA_swayed_23 rfl rfl rfl ?_
    refine g_ishl 25 dA_swayed_24 rfl ?_
    refine g_iconst 26 (1 : Int32) dA_swayed_25 rfl (by decide) ?_
    refine g_iload_n 27 (i := 2) dA_swayed_26 rfl rfl rfl ?_
    refine g_ishl 28 dA_swayed_27 rfl ?_
    obtain ⟨_, e5, h⟩ := x_bind h
    obtain ⟨w6, e6, h⟩ := x_bind h
    refine g_cV 31 none w6 [.int ((1 : Int32) <<< (v1 &&& 31)), .int ((1 : Int32) <<< (v1 &&& 31)), .int ((1 : Int32) <<< (v2 &&& 31)), .int ((1 : Int32) <<< (v2 &&& 31))] [] dA_swayed_28 rfl (fun _ hK2 => mO_become (d - 1) (by omega) e6 hK2) (x_ob_some e5) kA_166 (x_rm (Nat.le_trans (by decide) hd) (by decide)) ⟨Nat.zero_le _, Nat.zero_le _⟩ (Nat.le_of_ble_eq_true rfl) rfl ?_
    refine g_aload_n 32 (i := 0) dA_swayed_31 rfl rfl rfl ?_
    obtain ⟨t7, e7, h⟩ := x_bind h
    refine g_getfR 35 0 5 dA_swayed_32 rfl x_in0 tw_1_120 rfl (by decide) e7 ?_
    refine g_iconst 36 (1 : Int32) dA_swayed_35 rfl (by decide) ?_
    refine g_iload_n 37 (i := 1) dA_swayed_36 rfl rfl rfl ?_
    refine g_ishl 38 dA_swayed_37 rfl ?_
    refine g_iconst 39 (0 : Int32) dA_swayed_38 rfl (by decide) ?_
    refine g_iconst 40 (1 : Int32) dA_swayed_39 rfl (by decide) ?_
    refine g_iload_n 41 (i := 2) dA_swayed_40 rfl rfl rfl ?_
    refine g_ishl 42 dA_swayed_41 rfl ?_
    refine g_iconst 43 (0 : Int32) dA_swayed_42 rfl (by decide) ?_
    obtain ⟨_, e8, h⟩ := x_bind h
    obtain ⟨w9, e9, h⟩ := x_bind h
    refine g_cV 46 none w9 [.int ((1 : Int32) <<< (v1 &&& 31)), .int (0 : Int32), .int ((1 : Int32) <<< (v2 &&& 31)), .int (0 : Int32)] [] dA_swayed_43 rfl (fun _ hK2 => mO_become (d - 1) (by omega) e9 hK2) (x_ob_some e8) kA_166 (x_rm (Nat.le_trans (by decide) hd) (by decide)) ⟨Nat.zero_le _, Nat.zero_le _⟩ (Nat.le_of_ble_eq_true rfl) rfl ?_
    refine g_aload_n 47 (i := 0) dA_swayed_46 rfl rfl rfl ?_
    obtain ⟨t10, e10, h⟩ := x_bind h
    refine g_getfR 50 0 0 dA_swayed_47 rfl x_in0 tw_1_115 rfl (by decide) e10 ?_
    refine g_aload_n 51 (i := 0) dA_swayed_50 rfl rfl rfl ?_
    obtain ⟨t11, e11, h⟩ := x_bind h
    refine g_getfR 54 0 4 dA_swayed_51 rfl x_in0 tw_1_119 rfl (by decide) e11 ?_
    refine g_aload_n 55 (i := 0) dA_swayed_54 rfl rfl rfl ?_
    obtain ⟨t12, e12, h⟩ := x_bind h
    refine g_getfR 58 0 5 dA_swayed_55 rfl x_in0 tw_1_120 rfl (by decide) e12 ?_
    obtain ⟨_, e13, h⟩ := x_bind h
    obtain ⟨t14, e14, h⟩ := x_bind h
    refine g_cV 61 (some (.int t14)) w9 [.ref t11, .ref t12] [] dA_swayed_58 rfl (fun _ hK2 => mG_drawsOfBoth (d - 1) (by omega) e14 hK2) (x_ob_some e13) kA_173 (x_rm (Nat.le_trans (by decide) hd) (by decide)) ⟨Nat.zero_le _, Nat.zero_le _⟩ (Nat.le_of_ble_eq_true rfl) rfl ?_
    obtain rfl := Option.some.inj h
    exact g_iret rfl dA_swayed_61 hK
/-! ActSurgery.swap()I: level X -/
theorem dA_swap_0 : decode cA_swap 0 = .ok (.aload_n 0, 1) := by decide +kernel
theorem dA_swap_1 : decode cA_swap 1 = .ok (.getfield 10, 3) := by decide +kernel
theorem dA_swap_4 : decode cA_swap 4 = .ok (.astore_n 1, 1) := by decide +kernel
theorem dA_swap_5 : decode cA_swap 5 = .ok (.aload_n 0, 1) := by decide +kernel
theorem dA_swap_6 : decode cA_swap 6 = .ok (.aload_n 0, 1) := by decide +kernel
theorem dA_swap_7 : decode cA_swap 7 = .ok (.getfield 16, 3) := by decide +kernel
theorem dA_swap_10 : decode cA_swap 10 = .ok (.putfield 10, 3) := by decide +kernel
theorem dA_swap_13 : decode cA_swap 13 = .ok (.aload_n 0, 1) := by decide +kernel
theorem dA_swap_14 : decode cA_swap 14 = .ok (.aload_n 1, 1) := by decide +kernel
theorem dA_swap_15 : decode cA_swap 15 = .ok (.putfield 16, 3) := by decide +kernel
theorem dA_swap_18 : decode cA_swap 18 = .ok (.aload_n 0, 1) := by decide +kernel
theorem dA_swap_19 : decode cA_swap 19 = .ok (.getfield 10, 3) := by decide +kernel
theorem dA_swap_22 : decode cA_swap 22 = .ok (.getfield 43, 3) := by decide +kernel
theorem dA_swap_25 : decode cA_swap 25 = .ok (.getfield 46, 3) := by decide +kernel
theorem dA_swap_28 : decode cA_swap 28 = .ok (.ireturn, 1) := by decide +kernel
def fA_swap  (w : x_W) (v0 : Nat) : Option (Int32 × x_W) :=
  (x_fr w v0 0 0).bind fun t1 =>
  (x_fr w v0 0 1).bind fun t2 =>
  (x_pf w v0 0 0 (.ref t2)).bind fun w3 =>
  (x_pf w3 v0 0 1 (.ref t1)).bind fun w4 =>
  (x_fr w4 v0 0 0).bind fun t5 =>
  (x_fr w4 t5 2 0).bind fun t6 =>
  (x_fi w4 t6 1 0).bind fun t7 =>
  some (t7, w4)
set_option maxHeartbeats 4000000 in
set_option maxRecDepth 100000 in
theorem mA_swap (d : Nat) (hd : 1 ≤ d) {K : Option Value → x_W → Prop} {w : x_W} {v0 : Nat} {r : (Int32 × x_W)} (h : fA_swap w v0 = some r) (hK : K (some (.int r.1)) r.2) : x_M yA_swap cA_swap 2 (some .int) d 0 0 [.ref v0] w K := by
  refine x_M.of [some (.ref v0), none] (by decide) rfl (Nat.le_of_ble_eq_true rfl) ?_
  unfold fA_swap at h
  refine g_aload_n 1 (i := 0) dA_swap_0 rfl rfl rfl ?_
  obtain ⟨t1, e1, h⟩ := x_bind h
  refine g_getfR 4 0 0 dA_swap_1 rfl x_in0 tw_1_115 rfl (by decide) e1 ?_
  refine g_astore_n 5 (i := 1) [some (.ref v0), some (.ref t1)] dA_swap_4 rfl rfl rfl (by decide) ?_
  refine g_aload_n 6 (i := 0) dA_swap_5 rfl rfl rfl ?_
  refine g_aload_n 7 (i := 0) dA_swap_6 rfl rfl rfl ?_
  obtain ⟨t2, e2, h⟩ := x_bind h
  refine g_getfR 10 0 1 dA_swap_7 rfl x_in0 tw_1_116 rfl (by decide) e2 ?_
  obtain ⟨w3, e3, h⟩ := x_bind h
  refine g_putf 13 0 0 xy0 xy0_ok xn0 dA_swap_10 rfl x_in0 tw_1_115 rfl (by decide) rfl (fun _ _ => ⟨rfl, rfl⟩) e3 ?_
  refine g_aload_n 14 (i := 0) dA_swap_13 rfl rfl rfl ?_
  refine g_aload_n 15 (i := 1) dA_swap_14 rfl rfl rfl ?_
  obtain ⟨w4, e4, h⟩ := x_bind h
  refine g_putf 18 0 1 xy0 xy0_ok xn0 dA_swap_15 rfl x_in0 tw_1_116 rfl (by decide) rfl (fun _ _ => ⟨rfl, rfl⟩) e4 ?_
  refine g_aload_n 19 (i := 0) dA_swap_18 rfl rfl rfl ?_
  obtain ⟨t5, e5, h⟩ := x_bind h
  refine g_getfR 22 0 0 dA_swap_19 rfl x_in0 tw_1_115 rfl (by decide) e5 ?_
  obtain ⟨t6, e6, h⟩ := x_bind h
  refine g_getfR 25 2 0 dA_swap_22 rfl x_in2 tw_1_57 rfl (by decide) e6 ?_
  obtain ⟨t7, e7, h⟩ := x_bind h
  refine g_getfI 28 1 0 dA_swap_25 rfl x_in1 tw_1_33 rfl (by decide) e7 ?_
  obtain rfl := Option.some.inj h
  exact g_iret rfl dA_swap_28 hK
/-! ActSurgery$Graph.copy(LActSurgery$Graph;)V: level X -/
theorem dG_copy_0 : decode cG_copy 0 = .ok (.aload_n 0, 1) := by decide +kernel
theorem dG_copy_1 : decode cG_copy 1 = .ok (.getfield 12, 3) := by decide +kernel
theorem dG_copy_4 : decode cG_copy 4 = .ok (.aload_n 1, 1) := by decide +kernel
theorem dG_copy_5 : decode cG_copy 5 = .ok (.getfield 12, 3) := by decide +kernel
theorem dG_copy_8 : decode cG_copy 8 = .ok (.iconst 0, 1) := by decide +kernel
theorem dG_copy_9 : decode cG_copy 9 = .ok (.invokevirtual 37, 3) := by decide +kernel
theorem dG_copy_12 : decode cG_copy 12 = .ok (.aload_n 1, 1) := by decide +kernel
theorem dG_copy_13 : decode cG_copy 13 = .ok (.getfield 18, 3) := by decide +kernel
theorem dG_copy_16 : decode cG_copy 16 = .ok (.iconst 0, 1) := by decide +kernel
theorem dG_copy_17 : decode cG_copy 17 = .ok (.aload_n 0, 1) := by decide +kernel
theorem dG_copy_18 : decode cG_copy 18 = .ok (.getfield 18, 3) := by decide +kernel
theorem dG_copy_21 : decode cG_copy 21 = .ok (.iconst 0, 1) := by decide +kernel
theorem dG_copy_22 : decode cG_copy 22 = .ok (.sipush 192, 3) := by decide +kernel
theorem dG_copy_25 : decode cG_copy 25 = .ok (.invokestatic 41, 3) := by decide +kernel
theorem dG_copy_28 : decode cG_copy 28 = .ok (.aload_n 0, 1) := by decide +kernel
theorem dG_copy_29 : decode cG_copy 29 = .ok (.aload_n 1, 1) := by decide +kernel
theorem dG_copy_30 : decode cG_copy 30 = .ok (.getfield 30, 3) := by decide +kernel
theorem dG_copy_33 : decode cG_copy 33 = .ok (.putfield 30, 3) := by decide +kernel
theorem dG_copy_36 : decode cG_copy 36 = .ok (.return_, 1) := by decide +kernel
theorem tw_2_201 : (Jvm.Cond.methodLink "ActSurgery$Graph" (37 : Nat) ({ cls := "ActSurgery$Arrows", name := "copyWithout", desc := "(LActSurgery$Arrows;I)V" } : Jvm.MethodName)) ∈ x_GT := x_t2 201 rfl rfl
theorem kG_37 : x_kV "ActSurgery$Graph" 37 yR_copyWithout cR_copyWithout 4 none 2 1 := ⟨tw_2_99, tw_2_100, tw_2_101, tw_1_3, tw_2_201, (by decide +kernel), rfl⟩
theorem tw_2_202 : (Jvm.Cond.methodLink "ActSurgery$Graph" (41 : Nat) ({ cls := "java/lang/System", name := "arraycopy", desc := "(Ljava/lang/Object;ILjava/lang/Object;II)V" } : Jvm.MethodName)) ∈ x_GT := x_t2 202 rfl rfl
theorem tw_2_204 : (Jvm.Cond.native ({ cls := "java/lang/System", name := "arraycopy", desc := "(Ljava/lang/Object;ILjava/lang/Object;II)V" } : Jvm.MethodName)) ∈ x_GT := x_t2 204 rfl rfl
theorem tw_2_203 : (Jvm.Cond.static ({ cls := "java/lang/System", name := "arraycopy", desc := "(Ljava/lang/Object;ILjava/lang/Object;II)V" } : Jvm.MethodName)) ∈ x_GT := x_t2 203 rfl rfl
theorem tw_1_9 : (Jvm.Cond.initialized "java/lang/System") ∈ x_GT := x_t1 9 rfl rfl
def fG_copy  (w : x_W) (v0 : Nat) (v1 : Nat) : Option x_W :=
  (x_fr w v0 2 0).bind fun t1 =>
  (x_fr w v1 2 0).bind fun t2 =>
  (x_ob w t1 1).bind fun _ =>
  (fR_copyWithout w t1 t2 (0 : Int32)).bind fun w4 =>
  (x_fr w4 v1 2 1).bind fun t5 =>
  (x_fr w4 v0 2 1).bind fun t6 =>
  (x_cp w4 t5 (0 : Int32) t6 (0 : Int32) (192 : Int32)).bind fun w7 =>
  (x_fi w7 v1 2 2).bind fun t8 =>
  (x_pf w7 v0 2 2 (.int t8)).bind fun w9 =>
  some w9
set_option maxHeartbeats 4000000 in
set_option maxRecDepth 100000 in
theorem mG_copy (d : Nat) (hd : 2 ≤ d) {K : Option Value → x_W → Prop} {w : x_W} {v0 : Nat} {v1 : Nat} {r : x_W} (h : fG_copy w v0 v1 = some r) (hK : K none r) : x_M yG_copy cG_copy 2 none d 0 0 [.ref v0, .ref v1] w K := by
  refine x_M.of [some (.ref v0), some (.ref v1)] (by decide) rfl (Nat.le_of_ble_eq_true rfl) ?_
  unfold fG_copy at h
  refine g_aload_n 1 (i := 0) dG_copy_0 rfl rfl rfl ?_
  obtain ⟨t1, e1, h⟩ := x_bind h
  refine g_getfR 4 2 0 dG_copy_1 rfl x_in2 tw_1_56 rfl (by decide) e1 ?_
  refine g_aload_n 5 (i := 1) dG_copy_4 rfl rfl rfl ?_
  obtain ⟨t2, e2, h⟩ := x_bind h
  refine g_getfR 8 2 0 dG_copy_5 rfl x_in2 tw_1_56 rfl (by decide) e2 ?_
  refine g_iconst 9 (0 : Int32) dG_copy_8 rfl (by decide) ?_
  obtain ⟨_, e3, h⟩ := x_bind h
  obtain ⟨w4, e4, h⟩ := x_bind h
  refine g_cV 12 none w4 [.ref t2, .int (0 : Int32)] [] dG_copy_9 rfl (fun _ hK2 => mR_copyWithout (d - 1) (by omega) e4 hK2) (x_ob_some e3) kG_37 (x_rm (Nat.le_trans (by decide) hd) (by decide)) ⟨Nat.zero_le _, Nat.zero_le _⟩ (Nat.le_of_ble_eq_true rfl) rfl ?_
  refine g_aload_n 13 (i := 1) dG_copy_12 rfl rfl rfl ?_
  obtain ⟨t5, e5, h⟩ := x_bind h
  refine g_getfR 16 2 1 dG_copy_13 rfl x_in2 tw_1_58 rfl (by decide) e5 ?_
  refine g_iconst 17 (0 : Int32) dG_copy_16 rfl (by decide) ?_
  refine g_aload_n 18 (i := 0) dG_copy_17 rfl rfl rfl ?_
  obtain ⟨t6, e6, h⟩ := x_bind h
  refine g_getfR 21 2 1 dG_copy_18 rfl x_in2 tw_1_58 rfl (by decide) e6 ?_
  refine g_iconst 22 (0 : Int32) dG_copy_21 rfl (by decide) ?_
  refine g_sipush 25 (192 : Int32) dG_copy_22 rfl (by decide) ?_
  obtain ⟨w7, e7, h⟩ := x_bind h
  refine g_copy 28 dG_copy_25 rfl ⟨tw_2_202, tw_2_204, tw_2_203, tw_1_9⟩ (x_r1 (Nat.le_trans (by decide) hd)) (x_r60 (Nat.le_trans (by decide) hd)) (Nat.le_of_ble_eq_true rfl) e7 ?_
  refine g_aload_n 29 (i := 0) dG_copy_28 rfl rfl rfl ?_
  refine g_aload_n 30 (i := 1) dG_copy_29 rfl rfl rfl ?_
  obtain ⟨t8, e8, h⟩ := x_bind h
  refine g_getfI 33 2 2 dG_copy_30 rfl x_in2 tw_1_59 rfl (by decide) e8 ?_
  obtain ⟨w9, e9, h⟩ := x_bind h
  refine g_putf 36 2 2 xy2 xy2_ok xn2 dG_copy_33 rfl x_in2 tw_1_59 rfl (by decide) rfl (fun _ _ => ⟨rfl, rfl⟩) e9 ?_
  obtain rfl := Option.some.inj h
  exact g_vret rfl dG_copy_36 hK
/-! ActSurgery.keep()I: level X -/
theorem dA_keep_0 : decode cA_keep 0 = .ok (.aload_n 0, 1) := by decide +kernel
theorem dA_keep_1 : decode cA_keep 1 = .ok (.getfield 16, 3) := by decide +kernel
theorem dA_keep_4 : decode cA_keep 4 = .ok (.aload_n 0, 1) := by decide +kernel
theorem dA_keep_5 : decode cA_keep 5 = .ok (.getfield 10, 3) := by decide +kernel
theorem dA_keep_8 : decode cA_keep 8 = .ok (.invokevirtual 177, 3) := by decide +kernel
theorem dA_keep_11 : decode cA_keep 11 = .ok (.aload_n 0, 1) := by decide +kernel
theorem dA_keep_12 : decode cA_keep 12 = .ok (.getfield 10, 3) := by decide +kernel
theorem dA_keep_15 : decode cA_keep 15 = .ok (.getfield 43, 3) := by decide +kernel
theorem dA_keep_18 : decode cA_keep 18 = .ok (.getfield 46, 3) := by decide +kernel
theorem dA_keep_21 : decode cA_keep 21 = .ok (.ireturn, 1) := by decide +kernel
theorem tw_2_198 : (Jvm.Cond.instanceMethod ({ cls := "ActSurgery$Graph", name := "copy", desc := "(LActSurgery$Graph;)V" } : Jvm.MethodName)) ∈ x_GT := x_t2 198 rfl rfl
theorem tw_2_199 : (Jvm.Cond.selects "ActSurgery$Graph" ({ cls := "ActSurgery$Graph", name := "copy", desc := "(LActSurgery$Graph;)V" } : Jvm.MethodName) ({ cls := "ActSurgery$Graph", name := "copy", desc := "(LActSurgery$Graph;)V" } : Jvm.MethodName)) ∈ x_GT := x_t2 199 rfl rfl
theorem tw_2_200 : (Jvm.Cond.code ({ cls := "ActSurgery$Graph", name := "copy", desc := "(LActSurgery$Graph;)V" } : Jvm.MethodName) prog_3_method_3_code (2 : Nat) (Option.none : Option Jvm.ClassFile.FieldType)) ∈ x_GT := x_t2 200 rfl rfl
theorem tw_2_197 : (Jvm.Cond.methodLink "ActSurgery" (177 : Nat) ({ cls := "ActSurgery$Graph", name := "copy", desc := "(LActSurgery$Graph;)V" } : Jvm.MethodName)) ∈ x_GT := x_t2 197 rfl rfl
theorem kA_177 : x_kV "ActSurgery" 177 yG_copy cG_copy 2 none 1 2 := ⟨tw_2_198, tw_2_199, tw_2_200, tw_1_2, tw_2_197, (by decide +kernel), rfl⟩
def fA_keep  (w : x_W) (v0 : Nat) : Option (Int32 × x_W) :=
  (x_fr w v0 0 1).bind fun t1 =>
  (x_fr w v0 0 0).bind fun t2 =>
  (x_ob w t1 2).bind fun _ =>
  (fG_copy w t1 t2).bind fun w4 =>
  (x_fr w4 v0 0 0).bind fun t5 =>
  (x_fr w4 t5 2 0).bind fun t6 =>
  (x_fi w4 t6 1 0).bind fun t7 =>
  some (t7, w4)
set_option maxHeartbeats 4000000 in
set_option maxRecDepth 100000 in
theorem mA_keep (d : Nat) (hd : 3 ≤ d) {K : Option Value → x_W → Prop} {w : x_W} {v0 : Nat} {r : (Int32 × x_W)} (h : fA_keep w v0 = some r) (hK : K (some (.int r.1)) r.2) : x_M yA_keep cA_keep 1 (some .int) d 0 0 [.ref v0] w K := by
  refine x_M.of [some (.ref v0)] (by decide) rfl (Nat.le_of_ble_eq_true rfl) ?_
  unfold fA_keep at h
  refine g_aload_n 1 (i := 0) dA_keep_0 rfl rfl rfl ?_
  obtain ⟨t1, e1, h⟩ := x_bind h
  refine g_getfR 4 0 1 dA_keep_1 rfl x_in0 tw_1_116 rfl (by decide) e1 ?_
  refine g_aload_n 5 (i := 0) dA_keep_4 rfl rfl rfl ?_
  obtain ⟨t2, e2, h⟩ := x_bind h
  refine g_getfR 8 0 0 dA_keep_5 rfl x_in0 tw_1_115 rfl (by decide) e2 ?_
  obtain ⟨_, e3, h⟩ := x_bind h
  obtain ⟨w4, e4, h⟩ := x_bind h
  refine g_cV 11 none w4 [.ref t2] [] dA_keep_8 rfl (fun _ hK2 => mG_copy (d - 1) (by omega) e4 hK2) (x_ob_some e3) kA_177 (x_rm (Nat.le_trans (by decide) hd) (by decide)) ⟨Nat.zero_le _, Nat.zero_le _⟩ (Nat.le_of_ble_eq_true rfl) rfl ?_
  refine g_aload_n 12 (i := 0) dA_keep_11 rfl rfl rfl ?_
  obtain ⟨t5, e5, h⟩ := x_bind h
  refine g_getfR 15 0 0 dA_keep_12 rfl x_in0 tw_1_115 rfl (by decide) e5 ?_
  obtain ⟨t6, e6, h⟩ := x_bind h
  refine g_getfR 18 2 0 dA_keep_15 rfl x_in2 tw_1_57 rfl (by decide) e6 ?_
  obtain ⟨t7, e7, h⟩ := x_bind h
  refine g_getfI 21 1 0 dA_keep_18 rfl x_in1 tw_1_33 rfl (by decide) e7 ?_
  obtain rfl := Option.some.inj h
  exact g_iret rfl dA_keep_21 hK
/-! ActSurgery.haveSameOdds(III)Z: level X -/
theorem dA_haveSameOdds_0 : decode cA_haveSameOdds 0 = .ok (.iconst 0, 1) := by decide +kernel
theorem dA_haveSameOdds_1 : decode cA_haveSameOdds 1 = .ok (.istore 4, 2) := by decide +kernel
theorem dA_haveSameOdds_3 : decode cA_haveSameOdds 3 = .ok (.iload 4, 2) := by decide +kernel
theorem dA_haveSameOdds_5 : decode cA_haveSameOdds 5 = .ok (.iload_n 1, 1) := by decide +kernel
theorem dA_haveSameOdds_6 : decode cA_haveSameOdds 6 = .ok (.if_icmp .gt 65, 3) := by decide +kernel
theorem dA_haveSameOdds_9 : decode cA_haveSameOdds 9 = .ok (.iload 4, 2) := by decide +kernel
theorem dA_haveSameOdds_11 : decode cA_haveSameOdds 11 = .ok (.iload_n 1, 1) := by decide +kernel
theorem dA_haveSameOdds_12 : decode cA_haveSameOdds 12 = .ok (.invokestatic 62, 3) := by decide +kernel
theorem dA_haveSameOdds_15 : decode cA_haveSameOdds 15 = .ok (.ifCond .eq 50, 3) := by decide +kernel
theorem dA_haveSameOdds_18 : decode cA_haveSameOdds 18 = .ok (.aload_n 0, 1) := by decide +kernel
theorem dA_haveSameOdds_19 : decode cA_haveSameOdds 19 = .ok (.getfield 36, 3) := by decide +kernel
theorem dA_haveSameOdds_22 : decode cA_haveSameOdds 22 = .ok (.iload_n 2, 1) := by decide +kernel
theorem dA_haveSameOdds_23 : decode cA_haveSameOdds 23 = .ok (.iload_n 3, 1) := by decide +kernel
theorem dA_haveSameOdds_24 : decode cA_haveSameOdds 24 = .ok (.iload_n 1, 1) := by decide +kernel
theorem dA_haveSameOdds_25 : decode cA_haveSameOdds 25 = .ok (.iload 4, 2) := by decide +kernel
theorem dA_haveSameOdds_27 : decode cA_haveSameOdds 27 = .ok (.invokevirtual 166, 3) := by decide +kernel
theorem dA_haveSameOdds_30 : decode cA_haveSameOdds 30 = .ok (.aload_n 0, 1) := by decide +kernel
theorem dA_haveSameOdds_31 : decode cA_haveSameOdds 31 = .ok (.getfield 10, 3) := by decide +kernel
theorem dA_haveSameOdds_34 : decode cA_haveSameOdds 34 = .ok (.aload_n 0, 1) := by decide +kernel
theorem dA_haveSameOdds_35 : decode cA_haveSameOdds 35 = .ok (.getfield 36, 3) := by decide +kernel
theorem dA_haveSameOdds_38 : decode cA_haveSameOdds 38 = .ok (.aload_n 0, 1) := by decide +kernel
theorem dA_haveSameOdds_39 : decode cA_haveSameOdds 39 = .ok (.getfield 36, 3) := by decide +kernel
theorem dA_haveSameOdds_42 : decode cA_haveSameOdds 42 = .ok (.invokevirtual 173, 3) := by decide +kernel
theorem dA_haveSameOdds_45 : decode cA_haveSameOdds 45 = .ok (.aload_n 0, 1) := by decide +kernel
theorem dA_haveSameOdds_46 : decode cA_haveSameOdds 46 = .ok (.getfield 16, 3) := by decide +kernel
theorem dA_haveSameOdds_49 : decode cA_haveSameOdds 49 = .ok (.aload_n 0, 1) := by decide +kernel
theorem dA_haveSameOdds_50 : decode cA_haveSameOdds 50 = .ok (.getfield 36, 3) := by decide +kernel
theorem dA_haveSameOdds_53 : decode cA_haveSameOdds 53 = .ok (.aload_n 0, 1) := by decide +kernel
theorem dA_haveSameOdds_54 : decode cA_haveSameOdds 54 = .ok (.getfield 36, 3) := by decide +kernel
theorem dA_haveSameOdds_57 : decode cA_haveSameOdds 57 = .ok (.invokevirtual 173, 3) := by decide +kernel
theorem dA_haveSameOdds_60 : decode cA_haveSameOdds 60 = .ok (.if_icmp .eq 5, 3) := by decide +kernel
theorem dA_haveSameOdds_63 : decode cA_haveSameOdds 63 = .ok (.iconst 0, 1) := by decide +kernel
theorem dA_haveSameOdds_64 : decode cA_haveSameOdds 64 = .ok (.ireturn, 1) := by decide +kernel
theorem dA_haveSameOdds_65 : decode cA_haveSameOdds 65 = .ok (.iinc 4 1, 3) := by decide +kernel
theorem dA_haveSameOdds_68 : decode cA_haveSameOdds 68 = .ok (.goto (-65), 3) := by decide +kernel
theorem dA_haveSameOdds_71 : decode cA_haveSameOdds 71 = .ok (.iconst 1, 1) := by decide +kernel
theorem dA_haveSameOdds_72 : decode cA_haveSameOdds 72 = .ok (.ireturn, 1) := by decide +kernel
def fA_haveSameOdds_3  : Nat → x_W → Nat → Int32 → Int32 → Int32 → Int32 → Option (Int32 × x_W)
  | 0, _, _, _, _, _, _ => none
  | n + 1, w, v0, v1, v2, v3, v4 =>
    if v1 < v4 then
      some ((1 : Int32), w)
    else
      if (fA_isWithin v4 v1) = (0 : Int32) then
        fA_haveSameOdds_3 n w v0 v1 v2 v3 (v4 + (1 : Int32))
      else
        (x_fr w v0 0 4).bind fun t3 =>
        (x_ob w t3 3).bind fun _ =>
        (fO_become w t3 v2 v3 v1 v4).bind fun w5 =>
        (x_fr w5 v0 0 0).bind fun t6 =>
        (x_fr w5 v0 0 4).bind fun t7 =>
        (x_ob w5 t6 2).bind fun _ =>
        (fG_drawsOfBoth w5 t6 t7 t7).bind fun t9 =>
        (x_fr w5 v0 0 1).bind fun t10 =>
        (x_ob w5 t10 2).bind fun _ =>
        (fG_drawsOfBoth w5 t10 t7 t7).bind fun t12 =>
        if t9 = t12 then
          fA_haveSameOdds_3 n w5 v0 v1 v2 v3 (v4 + (1 : Int32))
        else
          some ((0 : Int32), w5)
def fA_haveSameOdds  (w : x_W) (v0 : Nat) (v1 : Int32) (v2 : Int32) (v3 : Int32) : Option (Int32 × x_W) :=
  fA_haveSameOdds_3 x_F w v0 v1 v2 v3 (0 : Int32)
set_option maxHeartbeats 4000000 in
set_option maxRecDepth 100000 in
theorem lA_haveSameOdds_3 (d : Nat) (hd : 13 ≤ d) {K : Option Value → x_W → Prop} {r : (Int32 × x_W)} (hK : K (some (.int r.1)) r.2) : ∀ (n : Nat) (w : x_W) (v0 : Nat) (v1 : Int32) (v2 : Int32) (v3 : Int32) (v4 : Int32), fA_haveSameOdds_3 n w v0 v1 v2 v3 v4 = some r → x_G none yA_haveSameOdds cA_haveSameOdds 5 (some .boolean) (x_room d 0 0) (x_QM K 0 0) 3 [some (.ref v0), some (.int v1), some (.int v2), some (.int v3), some (.int v4)] [] w 0 0 := by
  intro n
  induction n with
  | zero => intro w v0 v1 v2 v3 v4 h; rw [fA_haveSameOdds_3] at h; cases h
  | succ n ih =>
    intro w v0 v1 v2 v3 v4 h
    rw [fA_haveSameOdds_3] at h
    refine g_iload 5 dA_haveSameOdds_3 rfl rfl ?_
    refine g_iload_n 6 (i := 1) dA_haveSameOdds_5 rfl rfl rfl ?_
    by_cases c1 : v1 < v4
    · rw [if_pos c1] at h
      refine g_icmp_gt_t 71 dA_haveSameOdds_6 (by decide) c1 ?_
      refine g_iconst 72 (1 : Int32) dA_haveSameOdds_71 rfl (by decide) ?_
      obtain rfl := Option.some.inj h
      exact g_zret rfl (by decide) dA_haveSameOdds_72 hK
    · rw [if_neg c1] at h
      refine g_icmp_gt_f 9 71 dA_haveSameOdds_6 (by decide) rfl c1 ?_
      refine g_iload 11 dA_haveSameOdds_9 rfl rfl ?_
      refine g_iload_n 12 (i := 1) dA_haveSameOdds_11 rfl rfl rfl ?_
      refine g_cS 15 (some (.int (fA_isWithin v4 v1))) w [.int v4, .int v1] [] dA_haveSameOdds_12 rfl (fun _ hK2 => mA_isWithin (d - 1) (by omega) rfl hK2) kA_62 (x_rm (Nat.le_trans (by decide) hd) (by decide)) ⟨Nat.zero_le _, Nat.zero_le _⟩ (Nat.le_of_ble_eq_true rfl) rfl ?_
      by_cases c2 : (fA_isWithin v4 v1) = (0 : Int32)
      · rw [if_pos c2] at h
        refine g_if_eq_t 65 dA_haveSameOdds_15 (by decide) c2 ?_
        refine g_iinc 68 [some (.ref v0), some (.int v1), some (.int v2), some (.int v3), some (.int (v4 + (1 : Int32)))] dA_haveSameOdds_65 rfl rfl (x_inc (1 : Int32) (by decide)) rfl (by decide) ?_
        refine g_goto 3 dA_haveSameOdds_68 (by decide) ?_
        exact ih _ _ _ _ _ _ h
      · rw [if_neg c2] at h
        refine g_if_eq_f 18 65 dA_haveSameOdds_15 (by decide) rfl c2 ?_
        refine g_aload_n 19 (i := 0) dA_haveSameOdds_18 rfl rfl rfl ?_
        obtain ⟨t3, e3, h⟩ := x_bind h
        refine g_getfR 22 0 4 dA_haveSameOdds_19 rfl x_in0 tw_1_119 rfl (by decide) e3 ?_
        refine g_iload_n 23 (i := 2) dA_haveSameOdds_22 rfl rfl rfl ?_
        refine g_iload_n 24 (i := 3) dA_haveSameOdds_23 rfl rfl rfl ?_
        refine g_iload_n 25 (i := 1) dA_haveSameOdds_24 rfl rfl rfl ?_
        refine g_iload 27 dA_haveSameOdds_25 rfl rfl ?_
        obtain ⟨_, e4, h⟩ := x_bind h
        obtain ⟨w5, e5, h⟩ := x_bind h
        refine g_cV 30 none w5 [.int v2, .int v3, .int v1, .int v4] [] dA_haveSameOdds_27 rfl (fun _ hK2 => mO_become (d - 1) (by omega) e5 hK2) (x_ob_some e4) kA_166 (x_rm (Nat.le_trans (by decide) hd) (by decide)) ⟨Nat.zero_le _, Nat.zero_le _⟩ (Nat.le_of_ble_eq_true rfl) rfl ?_
        refine g_aload_n 31 (i := 0) dA_haveSameOdds_30 rfl rfl rfl ?_
        obtain ⟨t6, e6, h⟩ := x_bind h
        refine g_getfR 34 0 0 dA_haveSameOdds_31 rfl x_in0 tw_1_115 rfl (by decide) e6 ?_
        refine g_aload_n 35 (i := 0) dA_haveSameOdds_34 rfl rfl rfl ?_
        obtain ⟨t7, e7, h⟩ := x_bind h
        refine g_getfR 38 0 4 dA_haveSameOdds_35 rfl x_in0 tw_1_119 rfl (by decide) e7 ?_
        refine g_aload_n 39 (i := 0) dA_haveSameOdds_38 rfl rfl rfl ?_
        refine g_getfR 42 0 4 dA_haveSameOdds_39 rfl x_in0 tw_1_119 rfl (by decide) e7 ?_
        obtain ⟨_, e8, h⟩ := x_bind h
        obtain ⟨t9, e9, h⟩ := x_bind h
        refine g_cV 45 (some (.int t9)) w5 [.ref t7, .ref t7] [] dA_haveSameOdds_42 rfl (fun _ hK2 => mG_drawsOfBoth (d - 1) (by omega) e9 hK2) (x_ob_some e8) kA_173 (x_rm (Nat.le_trans (by decide) hd) (by decide)) ⟨Nat.zero_le _, Nat.zero_le _⟩ (Nat.le_of_ble_eq_true rfl) rfl ?_
        refine g_aload_n 46 (i := 0) dA_haveSameOdds_45 rfl rfl rfl ?_
        obtain ⟨t10, e10, h⟩ := x_bind h
        refine g_getfR 49 0 1 dA_haveSameOdds_46 rfl x_in0 tw_1_116 rfl (by decide) e10 ?_
        refine g_aload_n 50 (i := 0) dA_haveSameOdds_49 rfl rfl rfl ?_
        refine g_getfR 53 0 4 dA_haveSameOdds_50 rfl x_in0 tw_1_119 rfl (by decide) e7 ?_
        refine g_aload_n 54 (i := 0) dA_haveSameOdds_53 rfl rfl rfl ?_
        refine g_getfR 57 0 4 dA_haveSameOdds_54 rfl x_in0 tw_1_119 rfl (by decide) e7 ?_
        obtain ⟨_, e11, h⟩ := x_bind h
        obtain ⟨t12, e12, h⟩ := x_bind h
        refine g_cV 60 (some (.int t12)) w5 [.ref t7, .ref t7] [.int t9] dA_haveSameOdds_57 rfl (fun _ hK2 => mG_drawsOfBoth (d - 1) (by omega) e12 hK2) (x_ob_some e11) kA_173 (x_rm (Nat.le_trans (by decide) hd) (by decide)) ⟨Nat.zero_le _, Nat.zero_le _⟩ (Nat.le_of_ble_eq_true rfl) rfl ?_
        by_cases c13 : t9 = t12
        · rw [if_pos c13] at h
          refine g_icmp_eq_t 65 dA_haveSameOdds_60 (by decide) c13 ?_
          refine g_iinc 68 [some (.ref v0), some (.int v1), some (.int v2), some (.int v3), some (.int (v4 + (1 : Int32)))] dA_haveSameOdds_65 rfl rfl (x_inc (1 : Int32) (by decide)) rfl (by decide) ?_
          refine g_goto 3 dA_haveSameOdds_68 (by decide) ?_
          exact ih _ _ _ _ _ _ h
        · rw [if_neg c13] at h
          refine g_icmp_eq_f 63 65 dA_haveSameOdds_60 (by decide) rfl c13 ?_
          refine g_iconst 64 (0 : Int32) dA_haveSameOdds_63 rfl (by decide) ?_
          obtain rfl := Option.some.inj h
          exact g_zret rfl (by decide) dA_haveSameOdds_64 hK
set_option maxHeartbeats 4000000 in
set_option maxRecDepth 100000 in
theorem mA_haveSameOdds (d : Nat) (hd : 13 ≤ d) {K : Option Value → x_W → Prop} {w : x_W} {v0 : Nat} {v1 : Int32} {v2 : Int32} {v3 : Int32} {r : (Int32 × x_W)} (h : fA_haveSameOdds w v0 v1 v2 v3 = some r) (hK : K (some (.int r.1)) r.2) : x_M yA_haveSameOdds cA_haveSameOdds 5 (some .boolean) d 0 0 [.ref v0, .int v1, .int v2, .int v3] w K := by
  refine x_M.of [some (.ref v0), some (.int v1), some (.int v2), some (.int v3), none] (by decide) rfl (Nat.le_of_ble_eq_true rfl) ?_
  unfold fA_haveSameOdds at h
  refine g_iconst 1 (0 : Int32) dA_haveSameOdds_0 rfl (by decide) ?_
  refine g_istore 3 [some (.ref v0), some (.int v1), some (.int v2), some (.int v3), some (.int (0 : Int32))] dA_haveSameOdds_1 rfl rfl (by decide) ?_
  exact lA_haveSameOdds_3 d hd hK x_F _ _ _ _ _ _ h
