/-! ActSurgeryModel.hasShape(I)Z: level P -/
theorem dM_hasShape_0 : decode cM_hasShape 0 = .ok (.iconst 1, 1) := by decide +kernel
theorem dM_hasShape_1 : decode cM_hasShape 1 = .ok (.istore_n 2, 1) := by decide +kernel
theorem dM_hasShape_2 : decode cM_hasShape 2 = .ok (.iconst 0, 1) := by decide +kernel
theorem dM_hasShape_3 : decode cM_hasShape 3 = .ok (.istore_n 3, 1) := by decide +kernel
theorem dM_hasShape_4 : decode cM_hasShape 4 = .ok (.iload_n 3, 1) := by decide +kernel
theorem dM_hasShape_5 : decode cM_hasShape 5 = .ok (.iload_n 1, 1) := by decide +kernel
theorem dM_hasShape_6 : decode cM_hasShape 6 = .ok (.if_icmp .ge 157, 3) := by decide +kernel
theorem dM_hasShape_9 : decode cM_hasShape 9 = .ok (.iconst 0, 1) := by decide +kernel
theorem dM_hasShape_10 : decode cM_hasShape 10 = .ok (.istore 4, 2) := by decide +kernel
theorem dM_hasShape_12 : decode cM_hasShape 12 = .ok (.iload 4, 2) := by decide +kernel
theorem dM_hasShape_14 : decode cM_hasShape 14 = .ok (.iload_n 1, 1) := by decide +kernel
theorem dM_hasShape_15 : decode cM_hasShape 15 = .ok (.if_icmp .ge 142, 3) := by decide +kernel
theorem dM_hasShape_18 : decode cM_hasShape 18 = .ok (.iload_n 2, 1) := by decide +kernel
theorem dM_hasShape_19 : decode cM_hasShape 19 = .ok (.ifCond .eq 76, 3) := by decide +kernel
theorem dM_hasShape_22 : decode cM_hasShape 22 = .ok (.aload_n 0, 1) := by decide +kernel
theorem dM_hasShape_23 : decode cM_hasShape 23 = .ok (.getfield 31, 3) := by decide +kernel
theorem dM_hasShape_26 : decode cM_hasShape 26 = .ok (.iload_n 3, 1) := by decide +kernel
theorem dM_hasShape_27 : decode cM_hasShape 27 = .ok (.iaload, 1) := by decide +kernel
theorem dM_hasShape_28 : decode cM_hasShape 28 = .ok (.iload 4, 2) := by decide +kernel
theorem dM_hasShape_30 : decode cM_hasShape 30 = .ok (.invokestatic 62, 3) := by decide +kernel
theorem dM_hasShape_33 : decode cM_hasShape 33 = .ok (.ifCond .ne 17, 3) := by decide +kernel
theorem dM_hasShape_36 : decode cM_hasShape 36 = .ok (.aload_n 0, 1) := by decide +kernel
theorem dM_hasShape_37 : decode cM_hasShape 37 = .ok (.getfield 31, 3) := by decide +kernel
theorem dM_hasShape_40 : decode cM_hasShape 40 = .ok (.iload 4, 2) := by decide +kernel
theorem dM_hasShape_42 : decode cM_hasShape 42 = .ok (.iaload, 1) := by decide +kernel
theorem dM_hasShape_43 : decode cM_hasShape 43 = .ok (.iload_n 3, 1) := by decide +kernel
theorem dM_hasShape_44 : decode cM_hasShape 44 = .ok (.invokestatic 62, 3) := by decide +kernel
theorem dM_hasShape_47 : decode cM_hasShape 47 = .ok (.ifCond .eq 7, 3) := by decide +kernel
theorem dM_hasShape_50 : decode cM_hasShape 50 = .ok (.iconst 1, 1) := by decide +kernel
theorem dM_hasShape_51 : decode cM_hasShape 51 = .ok (.goto 4, 3) := by decide +kernel
theorem dM_hasShape_54 : decode cM_hasShape 54 = .ok (.iconst 0, 1) := by decide +kernel
theorem dM_hasShape_55 : decode cM_hasShape 55 = .ok (.aload_n 0, 1) := by decide +kernel
theorem dM_hasShape_56 : decode cM_hasShape 56 = .ok (.getfield 13, 3) := by decide +kernel
theorem dM_hasShape_59 : decode cM_hasShape 59 = .ok (.iload_n 3, 1) := by decide +kernel
theorem dM_hasShape_60 : decode cM_hasShape 60 = .ok (.iaload, 1) := by decide +kernel
theorem dM_hasShape_61 : decode cM_hasShape 61 = .ok (.iload 4, 2) := by decide +kernel
theorem dM_hasShape_63 : decode cM_hasShape 63 = .ok (.invokestatic 62, 3) := by decide +kernel
theorem dM_hasShape_66 : decode cM_hasShape 66 = .ok (.ifCond .ne 17, 3) := by decide +kernel
theorem dM_hasShape_69 : decode cM_hasShape 69 = .ok (.aload_n 0, 1) := by decide +kernel
theorem dM_hasShape_70 : decode cM_hasShape 70 = .ok (.getfield 13, 3) := by decide +kernel
theorem dM_hasShape_73 : decode cM_hasShape 73 = .ok (.iload 4, 2) := by decide +kernel
theorem dM_hasShape_75 : decode cM_hasShape 75 = .ok (.iaload, 1) := by decide +kernel
theorem dM_hasShape_76 : decode cM_hasShape 76 = .ok (.iload_n 3, 1) := by decide +kernel
theorem dM_hasShape_77 : decode cM_hasShape 77 = .ok (.invokestatic 62, 3) := by decide +kernel
theorem dM_hasShape_80 : decode cM_hasShape 80 = .ok (.ifCond .eq 7, 3) := by decide +kernel
theorem dM_hasShape_83 : decode cM_hasShape 83 = .ok (.iconst 1, 1) := by decide +kernel
theorem dM_hasShape_84 : decode cM_hasShape 84 = .ok (.goto 4, 3) := by decide +kernel
theorem dM_hasShape_87 : decode cM_hasShape 87 = .ok (.iconst 0, 1) := by decide +kernel
theorem dM_hasShape_88 : decode cM_hasShape 88 = .ok (.if_icmp .ne 7, 3) := by decide +kernel
theorem dM_hasShape_91 : decode cM_hasShape 91 = .ok (.iconst 1, 1) := by decide +kernel
theorem dM_hasShape_92 : decode cM_hasShape 92 = .ok (.goto 4, 3) := by decide +kernel
theorem dM_hasShape_95 : decode cM_hasShape 95 = .ok (.iconst 0, 1) := by decide +kernel
theorem dM_hasShape_96 : decode cM_hasShape 96 = .ok (.istore_n 2, 1) := by decide +kernel
theorem dM_hasShape_97 : decode cM_hasShape 97 = .ok (.iconst 0, 1) := by decide +kernel
theorem dM_hasShape_98 : decode cM_hasShape 98 = .ok (.istore 5, 2) := by decide +kernel
theorem dM_hasShape_100 : decode cM_hasShape 100 = .ok (.iload 5, 2) := by decide +kernel
theorem dM_hasShape_102 : decode cM_hasShape 102 = .ok (.iload_n 1, 1) := by decide +kernel
theorem dM_hasShape_103 : decode cM_hasShape 103 = .ok (.if_icmp .ge 48, 3) := by decide +kernel
theorem dM_hasShape_106 : decode cM_hasShape 106 = .ok (.iload_n 2, 1) := by decide +kernel
theorem dM_hasShape_107 : decode cM_hasShape 107 = .ok (.ifCond .eq 36, 3) := by decide +kernel
theorem dM_hasShape_110 : decode cM_hasShape 110 = .ok (.aload_n 0, 1) := by decide +kernel
theorem dM_hasShape_111 : decode cM_hasShape 111 = .ok (.getfield 31, 3) := by decide +kernel
theorem dM_hasShape_114 : decode cM_hasShape 114 = .ok (.iconst 0, 1) := by decide +kernel
theorem dM_hasShape_115 : decode cM_hasShape 115 = .ok (.iload_n 3, 1) := by decide +kernel
theorem dM_hasShape_116 : decode cM_hasShape 116 = .ok (.iload 4, 2) := by decide +kernel
theorem dM_hasShape_118 : decode cM_hasShape 118 = .ok (.iload 5, 2) := by decide +kernel
theorem dM_hasShape_120 : decode cM_hasShape 120 = .ok (.invokestatic 131, 3) := by decide +kernel
theorem dM_hasShape_123 : decode cM_hasShape 123 = .ok (.aload_n 0, 1) := by decide +kernel
theorem dM_hasShape_124 : decode cM_hasShape 124 = .ok (.getfield 13, 3) := by decide +kernel
theorem dM_hasShape_127 : decode cM_hasShape 127 = .ok (.iconst 0, 1) := by decide +kernel
theorem dM_hasShape_128 : decode cM_hasShape 128 = .ok (.iload_n 3, 1) := by decide +kernel
theorem dM_hasShape_129 : decode cM_hasShape 129 = .ok (.iload 4, 2) := by decide +kernel
theorem dM_hasShape_131 : decode cM_hasShape 131 = .ok (.iload 5, 2) := by decide +kernel
theorem dM_hasShape_133 : decode cM_hasShape 133 = .ok (.invokestatic 131, 3) := by decide +kernel
theorem dM_hasShape_136 : decode cM_hasShape 136 = .ok (.if_icmp .ne 7, 3) := by decide +kernel
theorem dM_hasShape_139 : decode cM_hasShape 139 = .ok (.iconst 1, 1) := by decide +kernel
theorem dM_hasShape_140 : decode cM_hasShape 140 = .ok (.goto 4, 3) := by decide +kernel
theorem dM_hasShape_143 : decode cM_hasShape 143 = .ok (.iconst 0, 1) := by decide +kernel
theorem dM_hasShape_144 : decode cM_hasShape 144 = .ok (.istore_n 2, 1) := by decide +kernel
theorem dM_hasShape_145 : decode cM_hasShape 145 = .ok (.iinc 5 1, 3) := by decide +kernel
theorem dM_hasShape_148 : decode cM_hasShape 148 = .ok (.goto (-48), 3) := by decide +kernel
theorem dM_hasShape_151 : decode cM_hasShape 151 = .ok (.iinc 4 1, 3) := by decide +kernel
theorem dM_hasShape_154 : decode cM_hasShape 154 = .ok (.goto (-142), 3) := by decide +kernel
theorem dM_hasShape_157 : decode cM_hasShape 157 = .ok (.iinc 3 1, 3) := by decide +kernel
theorem dM_hasShape_160 : decode cM_hasShape 160 = .ok (.goto (-156), 3) := by decide +kernel
theorem dM_hasShape_163 : decode cM_hasShape 163 = .ok (.iload_n 2, 1) := by decide +kernel
theorem dM_hasShape_164 : decode cM_hasShape 164 = .ok (.ireturn, 1) := by decide +kernel
theorem tw_3_185 : (Jvm.Cond.static ({ cls := "ActSurgeryModel", name := "meets", desc := "([IIIII)Z" } : Jvm.MethodName)) ∈ x_GT := x_t3 185 rfl rfl
theorem tw_3_186 : (Jvm.Cond.code ({ cls := "ActSurgeryModel", name := "meets", desc := "([IIIII)Z" } : Jvm.MethodName) prog_7_method_40_code (6 : Nat) (Option.some Jvm.ClassFile.FieldType.boolean)) ∈ x_GT := x_t3 186 rfl rfl
theorem tw_3_184 : (Jvm.Cond.methodLink "ActSurgeryModel" (131 : Nat) ({ cls := "ActSurgeryModel", name := "meets", desc := "([IIIII)Z" } : Jvm.MethodName)) ∈ x_GT := x_t3 184 rfl rfl
theorem kM_131 : x_kS "ActSurgeryModel" 131 yM_meets cM_meets 6 (some .boolean) 5 := ⟨tw_3_185, tw_3_186, tw_1_6, tw_3_184, (by decide +kernel)⟩
def fM_hasShape_100 (w : x_W) (k4 : Nat → Int32 → Int32 → Int32 → Option Int32) (k12 : Nat → Int32 → Int32 → Int32 → Int32 → Option Int32) : Nat → Nat → Int32 → Int32 → Int32 → Int32 → Int32 → Option Int32
  | 0, _, _, _, _, _, _ => none
  | n + 1, v0, v1, v2, v3, v4, v5 =>
    if v1 ≤ v5 then
      k12 v0 v1 v2 v3 (v4 + (1 : Int32))
    else
      if v2 = (0 : Int32) then
        fM_hasShape_100 w k4 k12 n v0 v1 (0 : Int32) v3 v4 (v5 + (1 : Int32))
      else
        (x_fr w v0 5 9).bind fun t3 =>
        (fM_meets w t3 (0 : Int32) v3 v4 v5).bind fun t4 =>
        (x_fr w v0 5 1).bind fun t5 =>
        (fM_meets w t5 (0 : Int32) v3 v4 v5).bind fun t6 =>
        if t4 = t6 then
          fM_hasShape_100 w k4 k12 n v0 v1 (1 : Int32) v3 v4 (v5 + (1 : Int32))
        else
          fM_hasShape_100 w k4 k12 n v0 v1 (0 : Int32) v3 v4 (v5 + (1 : Int32))
def fM_hasShape_12 (w : x_W) (k4 : Nat → Int32 → Int32 → Int32 → Option Int32) : Nat → Nat → Int32 → Int32 → Int32 → Int32 → Option Int32
  | 0, _, _, _, _, _ => none
  | n + 1, v0, v1, v2, v3, v4 =>
    if v1 ≤ v4 then
      k4 v0 v1 v2 (v3 + (1 : Int32))
    else
      if v2 = (0 : Int32) then
        fM_hasShape_100 w k4 (fM_hasShape_12 w k4 n) x_F v0 v1 (0 : Int32) v3 v4 (0 : Int32)
      else
        (x_fr w v0 5 9).bind fun t3 =>
        (x_ai w t3 v3).bind fun t4 =>
        if (fM_has t4 v4) = (0 : Int32) then
          (x_ai w t3 v4).bind fun t6 =>
          if (fM_has t6 v3) = (0 : Int32) then
            (x_fr w v0 5 1).bind fun t8 =>
            (x_ai w t8 v3).bind fun t9 =>
            if (fM_has t9 v4) = (0 : Int32) then
              (x_ai w t8 v4).bind fun t11 =>
              if (fM_has t11 v3) = (0 : Int32) then
                fM_hasShape_100 w k4 (fM_hasShape_12 w k4 n) x_F v0 v1 (1 : Int32) v3 v4 (0 : Int32)
              else
                fM_hasShape_100 w k4 (fM_hasShape_12 w k4 n) x_F v0 v1 (0 : Int32) v3 v4 (0 : Int32)
            else
              fM_hasShape_100 w k4 (fM_hasShape_12 w k4 n) x_F v0 v1 (0 : Int32) v3 v4 (0 : Int32)
          else
            (x_fr w v0 5 1).bind fun t13 =>
            (x_ai w t13 v3).bind fun t14 =>
            if (fM_has t14 v4) = (0 : Int32) then
              (x_ai w t13 v4).bind fun t16 =>
              if (fM_has t16 v3) = (0 : Int32) then
                fM_hasShape_100 w k4 (fM_hasShape_12 w k4 n) x_F v0 v1 (0 : Int32) v3 v4 (0 : Int32)
              else
                fM_hasShape_100 w k4 (fM_hasShape_12 w k4 n) x_F v0 v1 (1 : Int32) v3 v4 (0 : Int32)
            else
              fM_hasShape_100 w k4 (fM_hasShape_12 w k4 n) x_F v0 v1 (1 : Int32) v3 v4 (0 : Int32)
        else
          (x_fr w v0 5 1).bind fun t18 =>
          (x_ai w t18 v3).bind fun t19 =>
          if (fM_has t19 v4) = (0 : Int32) then
            (x_ai w t18 v4).bind fun t21 =>
            if (fM_has t21 v3) = (0 : Int32) then
              fM_hasShape_100 w k4 (fM_hasShape_12 w k4 n) x_F v0 v1 (0 : Int32) v3 v4 (0 : Int32)
            else
              fM_hasShape_100 w k4 (fM_hasShape_12 w k4 n) x_F v0 v1 (1 : Int32) v3 v4 (0 : Int32)
          else
            fM_hasShape_100 w k4 (fM_hasShape_12 w k4 n) x_F v0 v1 (1 : Int32) v3 v4 (0 : Int32)
def fM_hasShape_4 (w : x_W) : Nat → Nat → Int32 → Int32 → Int32 → Option Int32
  | 0, _, _, _, _ => none
  | n + 1, v0, v1, v2, v3 =>
    if v1 ≤ v3 then
      if v2 = 0 ∨ v2 = 1 then some v2 else none
    else
      fM_hasShape_12 w (fM_hasShape_4 w n) x_F v0 v1 v2 v3 (0 : Int32)
def fM_hasShape (w : x_W) (v0 : Nat) (v1 : Int32) : Option Int32 :=
  fM_hasShape_4 w x_F v0 v1 (1 : Int32) (0 : Int32)
set_option maxHeartbeats 4000000 in
set_option maxRecDepth 100000 in
theorem lM_hasShape_100 (d : Nat) (hd : 3 ≤ d) {K : Option Value → x_W → Prop} {r : Int32} {w : x_W} (hK : K (some (.int r)) w) {k4 : Nat → Int32 → Int32 → Int32 → Option Int32} (hk4 : ∀ (v0 : Nat) (v1 : Int32) (v2 : Int32) (v3 : Int32), k4 v0 v1 v2 v3 = some r → x_G none yM_hasShape cM_hasShape 6 (some .boolean) (x_room d 0 0) (x_QM K 0 0) 4 [some (.ref v0), some (.int v1), some (.int v2), some (.int v3), none, none] [] w 0 0) {k12 : Nat → Int32 → Int32 → Int32 → Int32 → Option Int32} (hk12 : ∀ (v0 : Nat) (v1 : Int32) (v2 : Int32) (v3 : Int32) (v4 : Int32), k12 v0 v1 v2 v3 v4 = some r → x_G none yM_hasShape cM_hasShape 6 (some .boolean) (x_room d 0 0) (x_QM K 0 0) 12 [some (.ref v0), some (.int v1), some (.int v2), some (.int v3), some (.int v4), none] [] w 0 0) : ∀ (n : Nat) (v0 : Nat) (v1 : Int32) (v2 : Int32) (v3 : Int32) (v4 : Int32) (v5 : Int32), fM_hasShape_100 w k4 k12 n v0 v1 v2 v3 v4 v5 = some r → x_G none yM_hasShape cM_hasShape 6 (some .boolean) (x_room d 0 0) (x_QM K 0 0) 100 [some (.ref v0), some (.int v1), some (.int v2), some (.int v3), some (.int v4), some (.int v5)] [] w 0 0 := by
  intro n
  induction n with
  | zero => intro v0 v1 v2 v3 v4 v5 h; rw [fM_hasShape_100] at h; cases h
  | succ n ih =>
    intro v0 v1 v2 v3 v4 v5 h
    rw [fM_hasShape_100] at h
    refine g_iload 102 dM_hasShape_100 rfl rfl ?_
    refine g_iload_n 103 (i := 1) dM_hasShape_102 rfl rfl rfl ?_
    by_cases c1 : v1 ≤ v5
    · rw [if_pos c1] at h
      refine g_icmp_ge_t 151 dM_hasShape_103 (by decide) c1 ?_
      refine g_iinc 154 [some (.ref v0), some (.int v1), some (.int v2), some (.int v3), some (.int (v4 + (1 : Int32))), some (.int v5)] dM_hasShape_151 rfl rfl (x_inc (1 : Int32) (by decide)) rfl (by decide) ?_
      refine g_goto 12 dM_hasShape_154 (by decide) ?_
      refine g_less [some (.ref v0), some (.int v1), some (.int v2), some (.int v3), some (.int (v4 + (1 : Int32))), none] ⟨rfl, rfl, rfl, rfl, rfl, trivial⟩ ?_
      exact hk12 _ _ _ _ _ h
    · rw [if_neg c1] at h
      refine g_icmp_ge_f 106 151 dM_hasShape_103 (by decide) rfl c1 ?_
      refine g_iload_n 107 (i := 2) dM_hasShape_106 rfl rfl rfl ?_
      by_cases c2 : v2 = (0 : Int32)
      · rw [if_pos c2] at h
        refine g_if_eq_t 143 dM_hasShape_107 (by decide) c2 ?_
        refine g_iconst 144 (0 : Int32) dM_hasShape_143 rfl (by decide) ?_
        refine g_istore_n 145 (i := 2) [some (.ref v0), some (.int v1), some (.int (0 : Int32)), some (.int v3), some (.int v4), some (.int v5)] dM_hasShape_144 rfl rfl rfl (by decide) ?_
        refine g_iinc 148 [some (.ref v0), some (.int v1), some (.int (0 : Int32)), some (.int v3), some (.int v4), some (.int (v5 + (1 : Int32)))] dM_hasShape_145 rfl rfl (x_inc (1 : Int32) (by decide)) rfl (by decide) ?_
        refine g_goto 100 dM_hasShape_148 (by decide) ?_
        exact ih _ _ _ _ _ _ h
      · rw [if_neg c2] at h
        refine g_if_eq_f 110 143 dM_hasShape_107 (by decide) rfl c2 ?_
        refine g_aload_n 111 (i := 0) dM_hasShape_110 rfl rfl rfl ?_
        obtain ⟨t3, e3, h⟩ := x_bind h
        refine g_getfR 114 5 9 dM_hasShape_111 rfl x_in5 tw_3_4 rfl (by decide) e3 ?_
        refine g_iconst 115 (0 : Int32) dM_hasShape_114 rfl (by decide) ?_
        refine g_iload_n 116 (i := 3) dM_hasShape_115 rfl rfl rfl ?_
        refine g_iload 118 dM_hasShape_116 rfl rfl ?_
        refine g_iload 120 dM_hasShape_118 rfl rfl ?_
        obtain ⟨t4, e4, h⟩ := x_bind h
        refine g_cS 123 (some (.int t4)) w [.ref t3, .int (0 : Int32), .int v3, .int v4, .int v5] [] dM_hasShape_120 rfl (fun _ hK2 => mM_meets (d - 1) (by omega) e4 hK2) kM_131 (x_rm (Nat.le_trans (by decide) hd) (by decide)) ⟨Nat.zero_le _, Nat.zero_le _⟩ (Nat.le_of_ble_eq_true rfl) rfl ?_
        refine g_aload_n 124 (i := 0) dM_hasShape_123 rfl rfl rfl ?_
        obtain ⟨t5, e5, h⟩ := x_bind h
        refine g_getfR 127 5 1 dM_hasShape_124 rfl x_in5 tw_2_236 rfl (by decide) e5 ?_
        refine g_iconst 128 (0 : Int32) dM_hasShape_127 rfl (by decide) ?_
        refine g_iload_n 129 (i := 3) dM_hasShape_128 rfl rfl rfl ?_
        refine g_iload 131 dM_hasShape_129 rfl rfl ?_
        refine g_iload 133 dM_hasShape_131 rfl rfl ?_
        obtain ⟨t6, e6, h⟩ := x_bind h
        refine g_cS 136 (some (.int t6)) w [.ref t5, .int (0 : Int32), .int v3, .int v4, .int v5] [.int t4] dM_hasShape_133 rfl (fun _ hK2 => mM_meets (d - 1) (by omega) e6 hK2) kM_131 (x_rm (Nat.le_trans (by decide) hd) (by decide)) ⟨Nat.zero_le _, Nat.zero_le _⟩ (Nat.le_of_ble_eq_true rfl) rfl ?_
        by_cases c7 : t4 = t6
        · rw [if_pos c7] at h
          refine g_icmp_ne_f 139 143 dM_hasShape_136 (by decide) rfl c7 ?_
          refine g_iconst 140 (1 : Int32) dM_hasShape_139 rfl (by decide) ?_
          refine g_goto 144 dM_hasShape_140 (by decide) ?_
          refine g_istore_n 145 (i := 2) [some (.ref v0), some (.int v1), some (.int (1 : Int32)), some (.int v3), some (.int v4), some (.int v5)] dM_hasShape_144 rfl rfl rfl (by decide) ?_
          refine g_iinc 148 [some (.ref v0), some (.int v1), some (.int (1 : Int32)), some (.int v3), some (.int v4), some (.int (v5 + (1 : Int32)))] dM_hasShape_145 rfl rfl (x_inc (1 : Int32) (by decide)) rfl (by decide) ?_
          refine g_goto 100 dM_hasShape_148 (by decide) ?_
          exact ih _ _ _ _ _ _ h
        · rw [if_neg c7] at h
          refine g_icmp_ne_t 143 dM_hasShape_136 (by decide) c7 ?_
          refine g_iconst 144 (0 : Int32) dM_hasShape_143 rfl (by decide) ?_
          refine g_istore_n 145 (i := 2) [some (.ref v0), some (.int v1), some (.int (0 : Int32)), some (.int v3), some (.int v4), some (.int v5)] dM_hasShape_144 rfl rfl rfl (by decide) ?_
          refine g_iinc 148 [some (.ref v0), some (.int v1), some (.int (0 : Int32)), some (.int v3), some (.int v4), some (.int (v5 + (1 : Int32)))] dM_hasShape_145 rfl rfl (x_inc (1 : Int32) (by decide)) rfl (by decide) ?_
          refine g_goto 100 dM_hasShape_148 (by decide) ?_
          exact ih _ _ _ _ _ _ h
set_option maxHeartbeats 4000000 in
set_option maxRecDepth 100000 in
theorem lM_hasShape_12 (d : Nat) (hd : 3 ≤ d) {K : Option Value → x_W → Prop} {r : Int32} {w : x_W} (hK : K (some (.int r)) w) {k4 : Nat → Int32 → Int32 → Int32 → Option Int32} (hk4 : ∀ (v0 : Nat) (v1 : Int32) (v2 : Int32) (v3 : Int32), k4 v0 v1 v2 v3 = some r → x_G none yM_hasShape cM_hasShape 6 (some .boolean) (x_room d 0 0) (x_QM K 0 0) 4 [some (.ref v0), some (.int v1), some (.int v2), some (.int v3), none, none] [] w 0 0) : ∀ (n : Nat) (v0 : Nat) (v1 : Int32) (v2 : Int32) (v3 : Int32) (v4 : Int32), fM_hasShape_12 w k4 n v0 v1 v2 v3 v4 = some r → x_G none yM_hasShape cM_hasShape 6 (some .boolean) (x_room d 0 0) (x_QM K 0 0) 12 [some (.ref v0), some (.int v1), some (.int v2), some (.int v3), some (.int v4), none] [] w 0 0 := by
  intro n
  induction n with
  | zero => intro v0 v1 v2 v3 v4 h; rw [fM_hasShape_12] at h; cases h
  | succ n ih =>
    intro v0 v1 v2 v3 v4 h
    rw [fM_hasShape_12] at h
    refine g_iload 14 dM_hasShape_12 rfl rfl ?_
    refine g_iload_n 15 (i := 1) dM_hasShape_14 rfl rfl rfl ?_
    by_cases c1 : v1 ≤ v4
    · rw [if_pos c1] at h
      refine g_icmp_ge_t 157 dM_hasShape_15 (by decide) c1 ?_
      refine g_iinc 160 [some (.ref v0), some (.int v1), some (.int v2), some (.int (v3 + (1 : Int32))), some (.int v4), none] dM_hasShape_157 rfl rfl (x_inc (1 : Int32) (by decide)) rfl (by decide) ?_
      refine g_goto 4 dM_hasShape_160 (by decide) ?_
      refine g_less [some (.ref v0), some (.int v1), some (.int v2), some (.int (v3 + (1 : Int32))), none, none] ⟨rfl, rfl, rfl, rfl, trivial⟩ ?_
      exact hk4 _ _ _ _ h
    · rw [if_neg c1] at h
      refine g_icmp_ge_f 18 157 dM_hasShape_15 (by decide) rfl c1 ?_
      refine g_iload_n 19 (i := 2) dM_hasShape_18 rfl rfl rfl ?_
      by_cases c2 : v2 = (0 : Int32)
      · rw [if_pos c2] at h
        refine g_if_eq_t 95 dM_hasShape_19 (by decide) c2 ?_
        refine g_iconst 96 (0 : Int32) dM_hasShape_95 rfl (by decide) ?_
        refine g_istore_n 97 (i := 2) [some (.ref v0), some (.int v1), some (.int (0 : Int32)), some (.int v3), some (.int v4), none] dM_hasShape_96 rfl rfl rfl (by decide) ?_
        refine g_iconst 98 (0 : Int32) dM_hasShape_97 rfl (by decide) ?_
        refine g_istore 100 [some (.ref v0), some (.int v1), some (.int (0 : Int32)), some (.int v3), some (.int v4), some (.int (0 : Int32))] dM_hasShape_98 rfl rfl (by decide) ?_
        exact lM_hasShape_100 d hd hK hk4 (fun _ _ _ _ _ hz => ih _ _ _ _ _ hz) x_F _ _ _ _ _ _ h
      · rw [if_neg c2] at h
        refine g_if_eq_f 22 95 dM_hasShape_19 (by decide) rfl c2 ?_
        refine g_aload_n 23 (i := 0) dM_hasShape_22 rfl rfl rfl ?_
        obtain ⟨t3, e3, h⟩ := x_bind h
        refine g_getfR 26 5 9 dM_hasShape_23 rfl x_in5 tw_3_4 rfl (by decide) e3 ?_
        refine g_iload_n 27 (i := 3) dM_hasShape_26 rfl rfl rfl ?_
        obtain ⟨t4, e4, h⟩ := x_bind h
        refine g_iald 28 dM_hasShape_27 rfl e4 ?_
        refine g_iload 30 dM_hasShape_28 rfl rfl ?_
        refine g_cS 33 (some (.int (fM_has t4 v4))) w [.int t4, .int v4] [] dM_hasShape_30 rfl (fun _ hK2 => mM_has (d - 1) (by omega) rfl hK2) kM_62 (x_rm (Nat.le_trans (by decide) hd) (by decide)) ⟨Nat.zero_le _, Nat.zero_le _⟩ (Nat.le_of_ble_eq_true rfl) rfl ?_
        by_cases c5 : (fM_has t4 v4) = (0 : Int32)
        · rw [if_pos c5] at h
          refine g_if_ne_f 36 50 dM_hasShape_33 (by decide) rfl c5 ?_
          refine g_aload_n 37 (i := 0) dM_hasShape_36 rfl rfl rfl ?_
          refine g_getfR 40 5 9 dM_hasShape_37 rfl x_in5 tw_3_4 rfl (by decide) e3 ?_
          refine g_iload 42 dM_hasShape_40 rfl rfl ?_
          obtain ⟨t6, e6, h⟩ := x_bind h
          refine g_iald 43 dM_hasShape_42 rfl e6 ?_
          refine g_iload_n 44 (i := 3) dM_hasShape_43 rfl rfl rfl ?_
          refine g_cS 47 (some (.int (fM_has t6 v3))) w [.int t6, .int v3] [] dM_hasShape_44 rfl (fun _ hK2 => mM_has (d - 1) (by omega) rfl hK2) kM_62 (x_rm (Nat.le_trans (by decide) hd) (by decide)) ⟨Nat.zero_le _, Nat.zero_le _⟩ (Nat.le_of_ble_eq_true rfl) rfl ?_
          by_cases c7 : (fM_has t6 v3) = (0 : Int32)
          · rw [if_pos c7] at h
            refine g_if_eq_t 54 dM_hasShape_47 (by decide) c7 ?_
            refine g_iconst 55 (0 : Int32) dM_hasShape_54 rfl (by decide) ?_
            refine g_aload_n 56 (i := 0) dM_hasShape_55 rfl rfl rfl ?_
            obtain ⟨t8, e8, h⟩ := x_bind h
            refine g_getfR 59 5 1 dM_hasShape_56 rfl x_in5 tw_2_236 rfl (by decide) e8 ?_
            refine g_iload_n 60 (i := 3) dM_hasShape_59 rfl rfl rfl ?_
            obtain ⟨t9, e9, h⟩ := x_bind h
            refine g_iald 61 dM_hasShape_60 rfl e9 ?_
            refine g_iload 63 dM_hasShape_61 rfl rfl ?_
            refine g_cS 66 (some (.int (fM_has t9 v4))) w [.int t9, .int v4] [.int (0 : Int32)] dM_hasShape_63 rfl (fun _ hK2 => mM_has (d - 1) (by omega) rfl hK2) kM_62 (x_rm (Nat.le_trans (by decide) hd) (by decide)) ⟨Nat.zero_le _, Nat.zero_le _⟩ (Nat.le_of_ble_eq_true rfl) rfl ?_
            by_cases c10 : (fM_has t9 v4) = (0 : Int32)
            · rw [if_pos c10] at h
              refine g_if_ne_f 69 83 dM_hasShape_66 (by decide) rfl c10 ?_
              refine g_aload_n 70 (i := 0) dM_hasShape_69 rfl rfl rfl ?_
              refine g_getfR 73 5 1 dM_hasShape_70 rfl x_in5 tw_2_236 rfl (by decide) e8 ?_
              refine g_iload 75 dM_hasShape_73 rfl rfl ?_
              obtain ⟨t11, e11, h⟩ := x_bind h
              refine g_iald 76 dM_hasShape_75 rfl e11 ?_
              refine g_iload_n 77 (i := 3) dM_hasShape_76 rfl rfl rfl ?_
              refine g_cS 80 (some (.int (fM_has t11 v3))) w [.int t11, .int v3] [.int (0 : Int32)] dM_hasShape_77 rfl (fun _ hK2 => mM_has (d - 1) (by omega) rfl hK2) kM_62 (x_rm (Nat.le_trans (by decide) hd) (by decide)) ⟨Nat.zero_le _, Nat.zero_le _⟩ (Nat.le_of_ble_eq_true rfl) rfl ?_
              by_cases c12 : (fM_has t11 v3) = (0 : Int32)
              · rw [if_pos c12] at h
                refine g_if_eq_t 87 dM_hasShape_80 (by decide) c12 ?_
                refine g_iconst 88 (0 : Int32) dM_hasShape_87 rfl (by decide) ?_
                refine g_icmp_ne_f 91 95 dM_hasShape_88 (by decide) rfl (by decide) ?_
                refine g_iconst 92 (1 : Int32) dM_hasShape_91 rfl (by decide) ?_
                refine g_goto 96 dM_hasShape_92 (by decide) ?_
                refine g_istore_n 97 (i := 2) [some (.ref v0), some (.int v1), some (.int (1 : Int32)), some (.int v3), some (.int v4), none] dM_hasShape_96 rfl rfl rfl (by decide) ?_
                refine g_iconst 98 (0 : Int32) dM_hasShape_97 rfl (by decide) ?_
                refine g_istore 100 [some (.ref v0), some (.int v1), some (.int (1 : Int32)), some (.int v3), some (.int v4), some (.int (0 : Int32))] dM_hasShape_98 rfl rfl (by decide) ?_
                exact lM_hasShape_100 d hd hK hk4 (fun _ _ _ _ _ hz => ih _ _ _ _ _ hz) x_F _ _ _ _ _ _ h
              · rw [if_neg c12] at h
                refine g_if_eq_f 83 87 dM_hasShape_80 (by decide) rfl c12 ?_
                refine g_iconst 84 (1 : Int32) dM_hasShape_83 rfl (by decide) ?_
                refine g_goto 88 dM_hasShape_84 (by decide) ?_
                refine g_icmp_ne_t 95 dM_hasShape_88 (by decide) (by decide) ?_
                refine g_iconst 96 (0 : Int32) dM_hasShape_95 rfl (by decide) ?_
                refine g_istore_n 97 (i := 2) [some (.ref v0), some (.int v1), some (.int (0 : Int32)), some (.int v3), some (.int v4), none] dM_hasShape_96 rfl rfl rfl (by decide) ?_
                refine g_iconst 98 (0 : Int32) dM_hasShape_97 rfl (by decide) ?_
                refine g_istore 100 [some (.ref v0), some (.int v1), some (.int (0 : Int32)), some (.int v3), some (.int v4), some (.int (0 : Int32))] dM_hasShape_98 rfl rfl (by decide) ?_
                exact lM_hasShape_100 d hd hK hk4 (fun _ _ _ _ _ hz => ih _ _ _ _ _ hz) x_F _ _ _ _ _ _ h
            · rw [if_neg c10] at h
              refine g_if_ne_t 83 dM_hasShape_66 (by decide) c10 ?_
              refine g_iconst 84 (1 : Int32) dM_hasShape_83 rfl (by decide) ?_
              refine g_goto 88 dM_hasShape_84 (by decide) ?_
              refine g_icmp_ne_t 95 dM_hasShape_88 (by decide) (by decide) ?_
              refine g_iconst 96 (0 : Int32) dM_hasShape_95 rfl (by decide) ?_
              refine g_istore_n 97 (i := 2) [some (.ref v0), some (.int v1), some (.int (0 : Int32)), some (.int v3), some (.int v4), none] dM_hasShape_96 rfl rfl rfl (by decide) ?_
              refine g_iconst 98 (0 : Int32) dM_hasShape_97 rfl (by decide) ?_
              refine g_istore 100 [some (.ref v0), some (.int v1), some (.int (0 : Int32)), some (.int v3), some (.int v4), some (.int (0 : Int32))] dM_hasShape_98 rfl rfl (by decide) ?_
              exact lM_hasShape_100 d hd hK hk4 (fun _ _ _ _ _ hz => ih _ _ _ _ _ hz) x_F _ _ _ _ _ _ h
          · rw [if_neg c7] at h
            refine g_if_eq_f 50 54 dM_hasShape_47 (by decide) rfl c7 ?_
            refine g_iconst 51 (1 : Int32) dM_hasShape_50 rfl (by decide) ?_
            refine g_goto 55 dM_hasShape_51 (by decide) ?_
            refine g_aload_n 56 (i := 0) dM_hasShape_55 rfl rfl rfl ?_
            obtain ⟨t13, e13, h⟩ := x_bind h
            refine g_getfR 59 5 1 dM_hasShape_56 rfl x_in5 tw_2_236 rfl (by decide) e13 ?_
            refine g_iload_n 60 (i := 3) dM_hasShape_59 rfl rfl rfl ?_
            obtain ⟨t14, e14, h⟩ := x_bind h
            refine g_iald 61 dM_hasShape_60 rfl e14 ?_
            refine g_iload 63 dM_hasShape_61 rfl rfl ?_
            refine g_cS 66 (some (.int (fM_has t14 v4))) w [.int t14, .int v4] [.int (1 : Int32)] dM_hasShape_63 rfl (fun _ hK2 => mM_has (d - 1) (by omega) rfl hK2) kM_62 (x_rm (Nat.le_trans (by decide) hd) (by decide)) ⟨Nat.zero_le _, Nat.zero_le _⟩ (Nat.le_of_ble_eq_true rfl) rfl ?_
            by_cases c15 : (fM_has t14 v4) = (0 : Int32)
            · rw [if_pos c15] at h
              refine g_if_ne_f 69 83 dM_hasShape_66 (by decide) rfl c15 ?_
              refine g_aload_n 70 (i := 0) dM_hasShape_69 rfl rfl rfl ?_
              refine g_getfR 73 5 1 dM_hasShape_70 rfl x_in5 tw_2_236 rfl (by decide) e13 ?_
              refine g_iload 75 dM_hasShape_73 rfl rfl ?_
              obtain ⟨t16, e16, h⟩ := x_bind h
              refine g_iald 76 dM_hasShape_75 rfl e16 ?_
              refine g_iload_n 77 (i := 3) dM_hasShape_76 rfl rfl rfl ?_
              refine g_cS 80 (some (.int (fM_has t16 v3))) w [.int t16, .int v3] [.int (1 : Int32)] dM_hasShape_77 rfl (fun _ hK2 => mM_has (d - 1) (by omega) rfl hK2) kM_62 (x_rm (Nat.le_trans (by decide) hd) (by decide)) ⟨Nat.zero_le _, Nat.zero_le _⟩ (Nat.le_of_ble_eq_true rfl) rfl ?_
              by_cases c17 : (fM_has t16 v3) = (0 : Int32)
              · rw [if_pos c17] at h
                refine g_if_eq_t 87 dM_hasShape_80 (by decide) c17 ?_
                refine g_iconst 88 (0 : Int32) dM_hasShape_87 rfl (by decide) ?_
                refine g_icmp_ne_t 95 dM_hasShape_88 (by decide) (by decide) ?_
                refine g_iconst 96 (0 : Int32) dM_hasShape_95 rfl (by decide) ?_
                refine g_istore_n 97 (i := 2) [some (.ref v0), some (.int v1), some (.int (0 : Int32)), some (.int v3), some (.int v4), none] dM_hasShape_96 rfl rfl rfl (by decide) ?_
                refine g_iconst 98 (0 : Int32) dM_hasShape_97 rfl (by decide) ?_
                refine g_istore 100 [some (.ref v0), some (.int v1), some (.int (0 : Int32)), some (.int v3), some (.int v4), some (.int (0 : Int32))] dM_hasShape_98 rfl rfl (by decide) ?_
                exact lM_hasShape_100 d hd hK hk4 (fun _ _ _ _ _ hz => ih _ _ _ _ _ hz) x_F _ _ _ _ _ _ h
              · rw [if_neg c17] at h
                refine g_if_eq_f 83 87 dM_hasShape_80 (by decide) rfl c17 ?_
                refine g_iconst 84 (1 : Int32) dM_hasShape_83 rfl (by decide) ?_
                refine g_goto 88 dM_hasShape_84 (by decide) ?_
                refine g_icmp_ne_f 91 95 dM_hasShape_88 (by decide) rfl (by decide) ?_
                refine g_iconst 92 (1 : Int32) dM_hasShape_91 rfl (by decide) ?_
                refine g_goto 96 dM_hasShape_92 (by decide) ?_
                refine g_istore_n 97 (i := 2) [some (.ref v0), some (.int v1), some (.int (1 : Int32)), some (.int v3), some (.int v4), none] dM_hasShape_96 rfl rfl rfl (by decide) ?_
                refine g_iconst 98 (0 : Int32) dM_hasShape_97 rfl (by decide) ?_
                refine g_istore 100 [some (.ref v0), some (.int v1), some (.int (1 : Int32)), some (.int v3), some (.int v4), some (.int (0 : Int32))] dM_hasShape_98 rfl rfl (by decide) ?_
                exact lM_hasShape_100 d hd hK hk4 (fun _ _ _ _ _ hz => ih _ _ _ _ _ hz) x_F _ _ _ _ _ _ h
            · rw [if_neg c15] at h
              refine g_if_ne_t 83 dM_hasShape_66 (by decide) c15 ?_
              refine g_iconst 84 (1 : Int32) dM_hasShape_83 rfl (by decide) ?_
              refine g_goto 88 dM_hasShape_84 (by decide) ?_
              refine g_icmp_ne_f 91 95 dM_hasShape_88 (by decide) rfl (by decide) ?_
              refine g_iconst 92 (1 : Int32) dM_hasShape_91 rfl (by decide) ?_
              refine g_goto 96 dM_hasShape_92 (by decide) ?_
              refine g_istore_n 97 (i := 2) [some (.ref v0), some (.int v1), some (.int (1 : Int32)), some (.int v3), some (.int v4), none] dM_hasShape_96 rfl rfl rfl (by decide) ?_
              refine g_iconst 98 (0 : Int32) dM_hasShape_97 rfl (by decide) ?_
              refine g_istore 100 [some (.ref v0), some (.int v1), some (.int (1 : Int32)), some (.int v3), some (.int v4), some (.int (0 : Int32))] dM_hasShape_98 rfl rfl (by decide) ?_
              exact lM_hasShape_100 d hd hK hk4 (fun _ _ _ _ _ hz => ih _ _ _ _ _ hz) x_F _ _ _ _ _ _ h
        · rw [if_neg c5] at h
          refine g_if_ne_t 50 dM_hasShape_33 (by decide) c5 ?_
          refine g_iconst 51 (1 : Int32) dM_hasShape_50 rfl (by decide) ?_
          refine g_goto 55 dM_hasShape_51 (by decide) ?_
          refine g_aload_n 56 (i := 0) dM_hasShape_55 rfl rfl rfl ?_
          obtain ⟨t18, e18, h⟩ := x_bind h
          refine g_getfR 59 5 1 dM_hasShape_56 rfl x_in5 tw_2_236 rfl (by decide) e18 ?_
          refine g_iload_n 60 (i := 3) dM_hasShape_59 rfl rfl rfl ?_
          obtain ⟨t19, e19, h⟩ := x_bind h
          refine g_iald 61 dM_hasShape_60 rfl e19 ?_
          refine g_iload 63 dM_hasShape_61 rfl rfl ?_
          refine g_cS 66 (some (.int (fM_has t19 v4))) w [.int t19, .int v4] [.int (1 : Int32)] dM_hasShape_63 rfl (fun _ hK2 => mM_has (d - 1) (by omega) rfl hK2) kM_62 (x_rm (Nat.le_trans (by decide) hd) (by decide)) ⟨Nat.zero_le _, Nat.zero_le _⟩ (Nat.le_of_ble_eq_true rfl) rfl ?_
          by_cases c20 : (fM_has t19 v4) = (0 : Int32)
          · rw [if_pos c20] at h
            refine g_if_ne_f 69 83 dM_hasShape_66 (by decide) rfl c20 ?_
            refine g_aload_n 70 (i := 0) dM_hasShape_69 rfl rfl rfl ?_
            refine g_getfR 73 5 1 dM_hasShape_70 rfl x_in5 tw_2_236 rfl (by decide) e18 ?_
            refine g_iload 75 dM_hasShape_73 rfl rfl ?_
            obtain ⟨t21, e21, h⟩ := x_bind h
            refine g_iald 76 dM_hasShape_75 rfl e21 ?_
            refine g_iload_n 77 (i := 3) dM_hasShape_76 rfl rfl rfl ?_
            refine g_cS 80 (some (.int (fM_has t21 v3))) w [.int t21, .int v3] [.int (1 : Int32)] dM_hasShape_77 rfl (fun _ hK2 => mM_has (d - 1) (by omega) rfl hK2) kM_62 (x_rm (Nat.le_trans (by decide) hd) (by decide)) ⟨Nat.zero_le _, Nat.zero_le _⟩ (Nat.le_of_ble_eq_true rfl) rfl ?_
            by_cases c22 : (fM_has t21 v3) = (0 : Int32)
            · rw [if_pos c22] at h
              refine g_if_eq_t 87 dM_hasShape_80 (by decide) c22 ?_
              refine g_iconst 88 (0 : Int32) dM_hasShape_87 rfl (by decide) ?_
              refine g_icmp_ne_t 95 dM_hasShape_88 (by decide) (by decide) ?_
              refine g_iconst 96 (0 : Int32) dM_hasShape_95 rfl (by decide) ?_
              refine g_istore_n 97 (i := 2) [some (.ref v0), some (.int v1), some (.int (0 : Int32)), some (.int v3), some (.int v4), none] dM_hasShape_96 rfl rfl rfl (by decide) ?_
              refine g_iconst 98 (0 : Int32) dM_hasShape_97 rfl (by decide) ?_
              refine g_istore 100 [some (.ref v0), some (.int v1), some (.int (0 : Int32)), some (.int v3), some (.int v4), some (.int (0 : Int32))] dM_hasShape_98 rfl rfl (by decide) ?_
              exact lM_hasShape_100 d hd hK hk4 (fun _ _ _ _ _ hz => ih _ _ _ _ _ hz) x_F _ _ _ _ _ _ h
            · rw [if_neg c22] at h
              refine g_if_eq_f 83 87 dM_hasShape_80 (by decide) rfl c22 ?_
              refine g_iconst 84 (1 : Int32) dM_hasShape_83 rfl (by decide) ?_
              refine g_goto 88 dM_hasShape_84 (by decide) ?_
              refine g_icmp_ne_f 91 95 dM_hasShape_88 (by decide) rfl (by decide) ?_
              refine g_iconst 92 (1 : Int32) dM_hasShape_91 rfl (by decide) ?_
              refine g_goto 96 dM_hasShape_92 (by decide) ?_
              refine g_istore_n 97 (i := 2) [some (.ref v0), some (.int v1), some (.int (1 : Int32)), some (.int v3), some (.int v4), none] dM_hasShape_96 rfl rfl rfl (by decide) ?_
              refine g_iconst 98 (0 : Int32) dM_hasShape_97 rfl (by decide) ?_
              refine g_istore 100 [some (.ref v0), some (.int v1), some (.int (1 : Int32)), some (.int v3), some (.int v4), some (.int (0 : Int32))] dM_hasShape_98 rfl rfl (by decide) ?_
              exact lM_hasShape_100 d hd hK hk4 (fun _ _ _ _ _ hz => ih _ _ _ _ _ hz) x_F _ _ _ _ _ _ h
          · rw [if_neg c20] at h
            refine g_if_ne_t 83 dM_hasShape_66 (by decide) c20 ?_
            refine g_iconst 84 (1 : Int32) dM_hasShape_83 rfl (by decide) ?_
            refine g_goto 88 dM_hasShape_84 (by decide) ?_
            refine g_icmp_ne_f 91 95 dM_hasShape_88 (by decide) rfl (by decide) ?_
            refine g_iconst 92 (1 : Int32) dM_hasShape_91 rfl (by decide) ?_
            refine g_goto 96 dM_hasShape_92 (by decide) ?_
            refine g_istore_n 97 (i := 2) [some (.ref v0), some (.int v1), some (.int (1 : Int32)), some (.int v3), some (.int v4), none] dM_hasShape_96 rfl rfl rfl (by decide) ?_
            refine g_iconst 98 (0 : Int32) dM_hasShape_97 rfl (by decide) ?_
            refine g_istore 100 [some (.ref v0), some (.int v1), some (.int (1 : Int32)), some (.int v3), some (.int v4), some (.int (0 : Int32))] dM_hasShape_98 rfl rfl (by decide) ?_
            exact lM_hasShape_100 d hd hK hk4 (fun _ _ _ _ _ hz => ih _ _ _ _ _ hz) x_F _ _ _ _ _ _ h
set_option maxHeartbeats 4000000 in
set_option maxRecDepth 100000 in
theorem lM_hasShape_4 (d : Nat) (hd : 3 ≤ d) {K : Option Value → x_W → Prop} {r : Int32} {w : x_W} (hK : K (some (.int r)) w) : ∀ (n : Nat) (v0 : Nat) (v1 : Int32) (v2 : Int32) (v3 : Int32), fM_hasShape_4 w n v0 v1 v2 v3 = some r → x_G none yM_hasShape cM_hasShape 6 (some .boolean) (x_room d 0 0) (x_QM K 0 0) 4 [some (.ref v0), some (.int v1), some (.int v2), some (.int v3), none, none] [] w 0 0 := by
  intro n
  induction n with
  | zero => intro v0 v1 v2 v3 h; rw [fM_hasShape_4] at h; cases h
  | succ n ih =>
    intro v0 v1 v2 v3 h
    rw [fM_hasShape_4] at h
    refine g_iload_n 5 (i := 3) dM_hasShape_4 rfl rfl rfl ?_
    refine g_iload_n 6 (i := 1) dM_hasShape_5 rfl rfl rfl ?_
    by_cases c1 : v1 ≤ v3
    · rw [if_pos c1] at h
      refine g_icmp_ge_t 163 dM_hasShape_6 (by decide) c1 ?_
      refine g_iload_n 164 (i := 2) dM_hasShape_163 rfl rfl rfl ?_
      have c2 : v2 = 0 ∨ v2 = 1 := by
        by_cases c : v2 = 0 ∨ v2 = 1
        · exact c
        · rw [if_neg c] at h; cases h
      rw [if_pos c2] at h
      obtain rfl := Option.some.inj h
      exact g_zret rfl c2 dM_hasShape_164 hK
    · rw [if_neg c1] at h
      refine g_icmp_ge_f 9 163 dM_hasShape_6 (by decide) rfl c1 ?_
      refine g_iconst 10 (0 : Int32) dM_hasShape_9 rfl (by decide) ?_
      refine g_istore 12 [some (.ref v0), some (.int v1), some (.int v2), some (.int v3), some (.int (0 : Int32)), none] dM_hasShape_10 rfl rfl (by decide) ?_
      exact lM_hasShape_12 d hd hK (fun _ _ _ _ hz => ih _ _ _ _ hz) x_F _ _ _ _ _ h
set_option maxHeartbeats 4000000 in
set_option maxRecDepth 100000 in
theorem mM_hasShape (d : Nat) (hd : 3 ≤ d) {K : Option Value → x_W → Prop} {w : x_W} {v0 : Nat} {v1 : Int32} {r : Int32} (h : fM_hasShape w v0 v1 = some r) (hK : K (some (.int r)) w) : x_M yM_hasShape cM_hasShape 6 (some .boolean) d 0 0 [.ref v0, .int v1] w K := by
  refine x_M.of [some (.ref v0), some (.int v1), none, none, none, none] (by decide) rfl (Nat.le_of_ble_eq_true rfl) ?_
  unfold fM_hasShape at h
  refine g_iconst 1 (1 : Int32) dM_hasShape_0 rfl (by decide) ?_
  refine g_istore_n 2 (i := 2) [some (.ref v0), some (.int v1), some (.int (1 : Int32)), none, none, none] dM_hasShape_1 rfl rfl rfl (by decide) ?_
  refine g_iconst 3 (0 : Int32) dM_hasShape_2 rfl (by decide) ?_
  refine g_istore_n 4 (i := 3) [some (.ref v0), some (.int v1), some (.int (1 : Int32)), some (.int (0 : Int32)), none, none] dM_hasShape_3 rfl rfl rfl (by decide) ?_
  exact lM_hasShape_4 d hd hK x_F _ _ _ _ h
/-! ActSurgeryModel.hasNoRing(I)Z: level P -/
theorem dM_hasNoRing_0 : decode cM_hasNoRing 0 = .ok (.iconst 0, 1) := by decide +kernel
theorem dM_hasNoRing_1 : decode cM_hasNoRing 1 = .ok (.istore_n 2, 1) := by decide +kernel
theorem dM_hasNoRing_2 : decode cM_hasNoRing 2 = .ok (.iconst 0, 1) := by decide +kernel
theorem dM_hasNoRing_3 : decode cM_hasNoRing 3 = .ok (.istore_n 3, 1) := by decide +kernel
theorem dM_hasNoRing_4 : decode cM_hasNoRing 4 = .ok (.iload_n 3, 1) := by decide +kernel
theorem dM_hasNoRing_5 : decode cM_hasNoRing 5 = .ok (.iload_n 1, 1) := by decide +kernel
theorem dM_hasNoRing_6 : decode cM_hasNoRing 6 = .ok (.if_icmp .ge 49, 3) := by decide +kernel
theorem dM_hasNoRing_9 : decode cM_hasNoRing 9 = .ok (.iconst 0, 1) := by decide +kernel
theorem dM_hasNoRing_10 : decode cM_hasNoRing 10 = .ok (.istore 4, 2) := by decide +kernel
theorem dM_hasNoRing_12 : decode cM_hasNoRing 12 = .ok (.iload 4, 2) := by decide +kernel
theorem dM_hasNoRing_14 : decode cM_hasNoRing 14 = .ok (.iload_n 1, 1) := by decide +kernel
theorem dM_hasNoRing_15 : decode cM_hasNoRing 15 = .ok (.if_icmp .ge 34, 3) := by decide +kernel
theorem dM_hasNoRing_18 : decode cM_hasNoRing 18 = .ok (.aload_n 0, 1) := by decide +kernel
theorem dM_hasNoRing_19 : decode cM_hasNoRing 19 = .ok (.getfield 31, 3) := by decide +kernel
theorem dM_hasNoRing_22 : decode cM_hasNoRing 22 = .ok (.iload 4, 2) := by decide +kernel
theorem dM_hasNoRing_24 : decode cM_hasNoRing 24 = .ok (.iaload, 1) := by decide +kernel
theorem dM_hasNoRing_25 : decode cM_hasNoRing 25 = .ok (.iload_n 2, 1) := by decide +kernel
theorem dM_hasNoRing_26 : decode cM_hasNoRing 26 = .ok (.iconst (-1), 1) := by decide +kernel
theorem dM_hasNoRing_27 : decode cM_hasNoRing 27 = .ok (.ixor, 1) := by decide +kernel
theorem dM_hasNoRing_28 : decode cM_hasNoRing 28 = .ok (.iand, 1) := by decide +kernel
theorem dM_hasNoRing_29 : decode cM_hasNoRing 29 = .ok (.ifCond .ne 12, 3) := by decide +kernel
theorem dM_hasNoRing_32 : decode cM_hasNoRing 32 = .ok (.iload_n 2, 1) := by decide +kernel
theorem dM_hasNoRing_33 : decode cM_hasNoRing 33 = .ok (.iconst 1, 1) := by decide +kernel
theorem dM_hasNoRing_34 : decode cM_hasNoRing 34 = .ok (.iload 4, 2) := by decide +kernel
theorem dM_hasNoRing_36 : decode cM_hasNoRing 36 = .ok (.ishl, 1) := by decide +kernel
theorem dM_hasNoRing_37 : decode cM_hasNoRing 37 = .ok (.ior, 1) := by decide +kernel
theorem dM_hasNoRing_38 : decode cM_hasNoRing 38 = .ok (.goto 4, 3) := by decide +kernel
theorem dM_hasNoRing_41 : decode cM_hasNoRing 41 = .ok (.iload_n 2, 1) := by decide +kernel
theorem dM_hasNoRing_42 : decode cM_hasNoRing 42 = .ok (.istore_n 2, 1) := by decide +kernel
theorem dM_hasNoRing_43 : decode cM_hasNoRing 43 = .ok (.iinc 4 1, 3) := by decide +kernel
theorem dM_hasNoRing_46 : decode cM_hasNoRing 46 = .ok (.goto (-34), 3) := by decide +kernel
theorem dM_hasNoRing_49 : decode cM_hasNoRing 49 = .ok (.iinc 3 1, 3) := by decide +kernel
theorem dM_hasNoRing_52 : decode cM_hasNoRing 52 = .ok (.goto (-48), 3) := by decide +kernel
theorem dM_hasNoRing_55 : decode cM_hasNoRing 55 = .ok (.iload_n 2, 1) := by decide +kernel
theorem dM_hasNoRing_56 : decode cM_hasNoRing 56 = .ok (.iconst 1, 1) := by decide +kernel
theorem dM_hasNoRing_57 : decode cM_hasNoRing 57 = .ok (.iload_n 1, 1) := by decide +kernel
theorem dM_hasNoRing_58 : decode cM_hasNoRing 58 = .ok (.ishl, 1) := by decide +kernel
theorem dM_hasNoRing_59 : decode cM_hasNoRing 59 = .ok (.iconst 1, 1) := by decide +kernel
theorem dM_hasNoRing_60 : decode cM_hasNoRing 60 = .ok (.isub, 1) := by decide +kernel
theorem dM_hasNoRing_61 : decode cM_hasNoRing 61 = .ok (.if_icmp .ne 7, 3) := by decide +kernel
theorem dM_hasNoRing_64 : decode cM_hasNoRing 64 = .ok (.iconst 1, 1) := by decide +kernel
theorem dM_hasNoRing_65 : decode cM_hasNoRing 65 = .ok (.goto 4, 3) := by decide +kernel
theorem dM_hasNoRing_68 : decode cM_hasNoRing 68 = .ok (.iconst 0, 1) := by decide +kernel
theorem dM_hasNoRing_69 : decode cM_hasNoRing 69 = .ok (.ireturn, 1) := by decide +kernel
def fM_hasNoRing_12 (w : x_W) (k4 : Nat → Int32 → Int32 → Int32 → Option Int32) : Nat → Nat → Int32 → Int32 → Int32 → Int32 → Option Int32
  | 0, _, _, _, _, _ => none
  | n + 1, v0, v1, v2, v3, v4 =>
    if v1 ≤ v4 then
      k4 v0 v1 v2 (v3 + (1 : Int32))
    else
      (x_fr w v0 5 9).bind fun t2 =>
      (x_ai w t2 v4).bind fun t3 =>
      if (t3 &&& (v2 ^^^ (-1 : Int32))) = (0 : Int32) then
        fM_hasNoRing_12 w k4 n v0 v1 (v2 ||| ((1 : Int32) <<< (v4 &&& 31))) v3 (v4 + (1 : Int32))
      else
        fM_hasNoRing_12 w k4 n v0 v1 v2 v3 (v4 + (1 : Int32))
def fM_hasNoRing_4 (w : x_W) : Nat → Nat → Int32 → Int32 → Int32 → Option Int32
  | 0, _, _, _, _ => none
  | n + 1, v0, v1, v2, v3 =>
    if v1 ≤ v3 then
      if v2 = (((1 : Int32) <<< (v1 &&& 31)) - (1 : Int32)) then
        some (1 : Int32)
      else
        some (0 : Int32)
    else
      fM_hasNoRing_12 w (fM_hasNoRing_4 w n) x_F v0 v1 v2 v3 (0 : Int32)
def fM_hasNoRing (w : x_W) (v0 : Nat) (v1 : Int32) : Option Int32 :=
  fM_hasNoRing_4 w x_F v0 v1 (0 : Int32) (0 : Int32)
set_option maxHeartbeats 4000000 in
set_option maxRecDepth 100000 in
theorem lM_hasNoRing_12 (d : Nat) (hd : 1 ≤ d) {K : Option Value → x_W → Prop} {r : Int32} {w : x_W} (hK : K (some (.int r)) w) {k4 : Nat → Int32 → Int32 → Int32 → Option Int32} (hk4 : ∀ (v0 : Nat) (v1 : Int32) (v2 : Int32) (v3 : Int32), k4 v0 v1 v2 v3 = some r → x_G none yM_hasNoRing cM_hasNoRing 5 (some .boolean) (x_room d 0 0) (x_QM K 0 0) 4 [some (.ref v0), some (.int v1), some (.int v2), some (.int v3), none] [] w 0 0) : ∀ (n : Nat) (v0 : Nat) (v1 : Int32) (v2 : Int32) (v3 : Int32) (v4 : Int32), fM_hasNoRing_12 w k4 n v0 v1 v2 v3 v4 = some r → x_G none yM_hasNoRing cM_hasNoRing 5 (some .boolean) (x_room d 0 0) (x_QM K 0 0) 12 [some (.ref v0), some (.int v1), some (.int v2), some (.int v3), some (.int v4)] [] w 0 0 := by
  intro n
  induction n with
  | zero => intro v0 v1 v2 v3 v4 h; rw [fM_hasNoRing_12] at h; cases h
  | succ n ih =>
    intro v0 v1 v2 v3 v4 h
    rw [fM_hasNoRing_12] at h
    refine g_iload 14 dM_hasNoRing_12 rfl rfl ?_
    refine g_iload_n 15 (i := 1) dM_hasNoRing_14 rfl rfl rfl ?_
    by_cases c1 : v1 ≤ v4
    · rw [if_pos c1] at h
      refine g_icmp_ge_t 49 dM_hasNoRing_15 (by decide) c1 ?_
      refine g_iinc 52 [some (.ref v0), some (.int v1), some (.int v2), some (.int (v3 + (1 : Int32))), some (.int v4)] dM_hasNoRing_49 rfl rfl (x_inc (1 : Int32) (by decide)) rfl (by decide) ?_
      refine g_goto 4 dM_hasNoRing_52 (by decide) ?_
      refine g_less [some (.ref v0), some (.int v1), some (.int v2), some (.int (v3 + (1 : Int32))), none] ⟨rfl, rfl, rfl, rfl, trivial⟩ ?_
      exact hk4 _ _ _ _ h
    · rw [if_neg c1] at h
      refine g_icmp_ge_f 18 49 dM_hasNoRing_15 (by decide) rfl c1 ?_
      refine g_aload_n 19 (i := 0) dM_hasNoRing_18 rfl rfl rfl ?_
      obtain ⟨t2, e2, h⟩ := x_bind h
      refine g_getfR 22 5 9 dM_hasNoRing_19 rfl x_in5 tw_3_4 rfl (by decide) e2 ?_
      refine g_iload 24 dM_hasNoRing_22 rfl rfl ?_
      obtain ⟨t3, e3, h⟩ := x_bind h
      refine g_iald 25 dM_hasNoRing_24 rfl e3 ?_
      refine g_iload_n 26 (i := 2) dM_hasNoRing_25 rfl rfl rfl ?_
      refine g_iconst 27 (-1 : Int32) dM_hasNoRing_26 rfl (by decide) ?_
      refine g_ixor 28 dM_hasNoRing_27 rfl ?_
      refine g_iand 29 dM_hasNoRing_28 rfl ?_
      by_cases c4 : (t3 &&& (v2 ^^^ (-1 : Int32))) = (0 : Int32)
      · rw [if_pos c4] at h
        refine g_if_ne_f 32 41 dM_hasNoRing_29 (by decide) rfl c4 ?_
        refine g_iload_n 33 (i := 2) dM_hasNoRing_32 rfl rfl rfl ?_
        refine g_iconst 34 (1 : Int32) dM_hasNoRing_33 rfl (by decide) ?_
        refine g_iload 36 dM_hasNoRing_34 rfl rfl ?_
        refine g_ishl 37 dM_hasNoRing_36 rfl ?_
        refine g_ior 38 dM_hasNoRing_37 rfl ?_
        refine g_goto 42 dM_hasNoRing_38 (by decide) ?_
        refine g_istore_n 43 (i := 2) [some (.ref v0), some (.int v1), some (.int (v2 ||| ((1 : Int32) <<< (v4 &&& 31)))), some (.int v3), some (.int v4)] dM_hasNoRing_42 rfl rfl rfl (by decide) ?_
        refine g_iinc 46 [some (.ref v0), some (.int v1), some (.int (v2 ||| ((1 : Int32) <<< (v4 &&& 31)))), some (.int v3), some (.int (v4 + (1 : Int32)))] dM_hasNoRing_43 rfl rfl (x_inc (1 : Int32) (by decide)) rfl (by decide) ?_
        refine g_goto 12 dM_hasNoRing_46 (by decide) ?_
        exact ih _ _ _ _ _ h
      · rw [if_neg c4] at h
        refine g_if_ne_t 41 dM_hasNoRing_29 (by decide) c4 ?_
        refine g_iload_n 42 (i := 2) dM_hasNoRing_41 rfl rfl rfl ?_
        refine g_istore_n 43 (i := 2) [some (.ref v0), some (.int v1), some (.int v2), some (.int v3), some (.int v4)] dM_hasNoRing_42 rfl rfl rfl (by decide) ?_
        refine g_iinc 46 [some (.ref v0), some (.int v1), some (.int v2), some (.int v3), some (.int (v4 + (1 : Int32)))] dM_hasNoRing_43 rfl rfl (x_inc (1 : Int32) (by decide)) rfl (by decide) ?_
        refine g_goto 12 dM_hasNoRing_46 (by decide) ?_
        exact ih _ _ _ _ _ h
set_option maxHeartbeats 4000000 in
set_option maxRecDepth 100000 in
theorem lM_hasNoRing_4 (d : Nat) (hd : 1 ≤ d) {K : Option Value → x_W → Prop} {r : Int32} {w : x_W} (hK : K (some (.int r)) w) : ∀ (n : Nat) (v0 : Nat) (v1 : Int32) (v2 : Int32) (v3 : Int32), fM_hasNoRing_4 w n v0 v1 v2 v3 = some r → x_G none yM_hasNoRing cM_hasNoRing 5 (some .boolean) (x_room d 0 0) (x_QM K 0 0) 4 [some (.ref v0), some (.int v1), some (.int v2), some (.int v3), none] [] w 0 0 := by
  intro n
  induction n with
  | zero => intro v0 v1 v2 v3 h; rw [fM_hasNoRing_4] at h; cases h
  | succ n ih =>
    intro v0 v1 v2 v3 h
    rw [fM_hasNoRing_4] at h
    refine g_iload_n 5 (i := 3) dM_hasNoRing_4 rfl rfl rfl ?_
    refine g_iload_n 6 (i := 1) dM_hasNoRing_5 rfl rfl rfl ?_
    by_cases c1 : v1 ≤ v3
    · rw [if_pos c1] at h
      refine g_icmp_ge_t 55 dM_hasNoRing_6 (by decide) c1 ?_
      refine g_iload_n 56 (i := 2) dM_hasNoRing_55 rfl rfl rfl ?_
      refine g_iconst 57 (1 : Int32) dM_hasNoRing_56 rfl (by decide) ?_
      refine g_iload_n 58 (i := 1) dM_hasNoRing_57 rfl rfl rfl ?_
      refine g_ishl 59 dM_hasNoRing_58 rfl ?_
      refine g_iconst 60 (1 : Int32) dM_hasNoRing_59 rfl (by decide) ?_
      refine g_isub 61 dM_hasNoRing_60 rfl ?_
      by_cases c2 : v2 = (((1 : Int32) <<< (v1 &&& 31)) - (1 : Int32))
      · rw [if_pos c2] at h
        refine g_icmp_ne_f 64 68 dM_hasNoRing_61 (by decide) rfl c2 ?_
        refine g_iconst 65 (1 : Int32) dM_hasNoRing_64 rfl (by decide) ?_
        refine g_goto 69 dM_hasNoRing_65 (by decide) ?_
        obtain rfl := Option.some.inj h
        exact g_zret rfl (by decide) dM_hasNoRing_69 hK
      · rw [if_neg c2] at h
        refine g_icmp_ne_t 68 dM_hasNoRing_61 (by decide) c2 ?_
        refine g_iconst 69 (0 : Int32) dM_hasNoRing_68 rfl (by decide) ?_
        obtain rfl := Option.some.inj h
        exact g_zret rfl (by decide) dM_hasNoRing_69 hK
    · rw [if_neg c1] at h
      refine g_icmp_ge_f 9 55 dM_hasNoRing_6 (by decide) rfl c1 ?_
      refine g_iconst 10 (0 : Int32) dM_hasNoRing_9 rfl (by decide) ?_
      refine g_istore 12 [some (.ref v0), some (.int v1), some (.int v2), some (.int v3), some (.int (0 : Int32))] dM_hasNoRing_10 rfl rfl (by decide) ?_
      exact lM_hasNoRing_12 d hd hK (fun _ _ _ _ hz => ih _ _ _ _ hz) x_F _ _ _ _ _ h
set_option maxHeartbeats 4000000 in
set_option maxRecDepth 100000 in
theorem mM_hasNoRing (d : Nat) (hd : 1 ≤ d) {K : Option Value → x_W → Prop} {w : x_W} {v0 : Nat} {v1 : Int32} {r : Int32} (h : fM_hasNoRing w v0 v1 = some r) (hK : K (some (.int r)) w) : x_M yM_hasNoRing cM_hasNoRing 5 (some .boolean) d 0 0 [.ref v0, .int v1] w K := by
  refine x_M.of [some (.ref v0), some (.int v1), none, none, none] (by decide) rfl (Nat.le_of_ble_eq_true rfl) ?_
  unfold fM_hasNoRing at h
  refine g_iconst 1 (0 : Int32) dM_hasNoRing_0 rfl (by decide) ?_
  refine g_istore_n 2 (i := 2) [some (.ref v0), some (.int v1), some (.int (0 : Int32)), none, none] dM_hasNoRing_1 rfl rfl rfl (by decide) ?_
  refine g_iconst 3 (0 : Int32) dM_hasNoRing_2 rfl (by decide) ?_
  refine g_istore_n 4 (i := 3) [some (.ref v0), some (.int v1), some (.int (0 : Int32)), some (.int (0 : Int32)), none] dM_hasNoRing_3 rfl rfl rfl (by decide) ?_
  exact lM_hasNoRing_4 d hd hK x_F _ _ _ _ h
/-! ActSurgeryModel.findLike()V: level X -/
theorem dM_findLike_0 : decode cM_findLike 0 = .ok (.aload_n 0, 1) := by decide +kernel
theorem dM_findLike_1 : decode cM_findLike 1 = .ok (.iconst 0, 1) := by decide +kernel
theorem dM_findLike_2 : decode cM_findLike 2 = .ok (.putfield 135, 3) := by decide +kernel
theorem dM_findLike_5 : decode cM_findLike 5 = .ok (.iconst 0, 1) := by decide +kernel
theorem dM_findLike_6 : decode cM_findLike 6 = .ok (.istore_n 1, 1) := by decide +kernel
theorem dM_findLike_7 : decode cM_findLike 7 = .ok (.iload_n 1, 1) := by decide +kernel
theorem dM_findLike_8 : decode cM_findLike 8 = .ok (.aload_n 0, 1) := by decide +kernel
theorem dM_findLike_9 : decode cM_findLike 9 = .ok (.invokevirtual 44, 3) := by decide +kernel
theorem dM_findLike_12 : decode cM_findLike 12 = .ok (.if_icmp .ge 77, 3) := by decide +kernel
theorem dM_findLike_15 : decode cM_findLike 15 = .ok (.aload_n 0, 1) := by decide +kernel
theorem dM_findLike_16 : decode cM_findLike 16 = .ok (.getfield 34, 3) := by decide +kernel
theorem dM_findLike_19 : decode cM_findLike 19 = .ok (.iload_n 1, 1) := by decide +kernel
theorem dM_findLike_20 : decode cM_findLike 20 = .ok (.aload_n 0, 1) := by decide +kernel
theorem dM_findLike_21 : decode cM_findLike 21 = .ok (.getfield 13, 3) := by decide +kernel
theorem dM_findLike_24 : decode cM_findLike 24 = .ok (.iload_n 1, 1) := by decide +kernel
theorem dM_findLike_25 : decode cM_findLike 25 = .ok (.iaload, 1) := by decide +kernel
theorem dM_findLike_26 : decode cM_findLike 26 = .ok (.iastore, 1) := by decide +kernel
theorem dM_findLike_27 : decode cM_findLike 27 = .ok (.iconst 0, 1) := by decide +kernel
theorem dM_findLike_28 : decode cM_findLike 28 = .ok (.istore_n 2, 1) := by decide +kernel
theorem dM_findLike_29 : decode cM_findLike 29 = .ok (.iload_n 2, 1) := by decide +kernel
theorem dM_findLike_30 : decode cM_findLike 30 = .ok (.iload_n 1, 1) := by decide +kernel
theorem dM_findLike_31 : decode cM_findLike 31 = .ok (.if_icmp .ge 52, 3) := by decide +kernel
theorem dM_findLike_34 : decode cM_findLike 34 = .ok (.aload_n 0, 1) := by decide +kernel
theorem dM_findLike_35 : decode cM_findLike 35 = .ok (.getfield 13, 3) := by decide +kernel
theorem dM_findLike_38 : decode cM_findLike 38 = .ok (.iload_n 1, 1) := by decide +kernel
theorem dM_findLike_39 : decode cM_findLike 39 = .ok (.iaload, 1) := by decide +kernel
theorem dM_findLike_40 : decode cM_findLike 40 = .ok (.iload_n 2, 1) := by decide +kernel
theorem dM_findLike_41 : decode cM_findLike 41 = .ok (.invokestatic 62, 3) := by decide +kernel
theorem dM_findLike_44 : decode cM_findLike 44 = .ok (.ifCond .eq 33, 3) := by decide +kernel
theorem dM_findLike_47 : decode cM_findLike 47 = .ok (.aload_n 0, 1) := by decide +kernel
theorem dM_findLike_48 : decode cM_findLike 48 = .ok (.getfield 25, 3) := by decide +kernel
theorem dM_findLike_51 : decode cM_findLike 51 = .ok (.aload_n 0, 1) := by decide +kernel
theorem dM_findLike_52 : decode cM_findLike 52 = .ok (.getfield 135, 3) := by decide +kernel
theorem dM_findLike_55 : decode cM_findLike 55 = .ok (.iload_n 2, 1) := by decide +kernel
theorem dM_findLike_56 : decode cM_findLike 56 = .ok (.iastore, 1) := by decide +kernel
theorem dM_findLike_57 : decode cM_findLike 57 = .ok (.aload_n 0, 1) := by decide +kernel
theorem dM_findLike_58 : decode cM_findLike 58 = .ok (.getfield 28, 3) := by decide +kernel
theorem dM_findLike_61 : decode cM_findLike 61 = .ok (.aload_n 0, 1) := by decide +kernel
theorem dM_findLike_62 : decode cM_findLike 62 = .ok (.getfield 135, 3) := by decide +kernel
theorem dM_findLike_65 : decode cM_findLike 65 = .ok (.iload_n 1, 1) := by decide +kernel
theorem dM_findLike_66 : decode cM_findLike 66 = .ok (.iastore, 1) := by decide +kernel
theorem dM_findLike_67 : decode cM_findLike 67 = .ok (.aload_n 0, 1) := by decide +kernel
theorem dM_findLike_68 : decode cM_findLike 68 = .ok (.dup, 1) := by decide +kernel
theorem dM_findLike_69 : decode cM_findLike 69 = .ok (.getfield 135, 3) := by decide +kernel
theorem dM_findLike_72 : decode cM_findLike 72 = .ok (.iconst 1, 1) := by decide +kernel
theorem dM_findLike_73 : decode cM_findLike 73 = .ok (.iadd, 1) := by decide +kernel
theorem dM_findLike_74 : decode cM_findLike 74 = .ok (.putfield 135, 3) := by decide +kernel
theorem dM_findLike_77 : decode cM_findLike 77 = .ok (.iinc 2 1, 3) := by decide +kernel
theorem dM_findLike_80 : decode cM_findLike 80 = .ok (.goto (-51), 3) := by decide +kernel
theorem dM_findLike_83 : decode cM_findLike 83 = .ok (.iinc 1 1, 3) := by decide +kernel
theorem dM_findLike_86 : decode cM_findLike 86 = .ok (.goto (-79), 3) := by decide +kernel
theorem dM_findLike_89 : decode cM_findLike 89 = .ok (.aload_n 0, 1) := by decide +kernel
theorem dM_findLike_90 : decode cM_findLike 90 = .ok (.iconst 0, 1) := by decide +kernel
theorem dM_findLike_91 : decode cM_findLike 91 = .ok (.putfield 138, 3) := by decide +kernel
theorem dM_findLike_94 : decode cM_findLike 94 = .ok (.iconst 0, 1) := by decide +kernel
theorem dM_findLike_95 : decode cM_findLike 95 = .ok (.istore_n 1, 1) := by decide +kernel
theorem dM_findLike_96 : decode cM_findLike 96 = .ok (.iload_n 1, 1) := by decide +kernel
theorem dM_findLike_97 : decode cM_findLike 97 = .ok (.iconst 1, 1) := by decide +kernel
theorem dM_findLike_98 : decode cM_findLike 98 = .ok (.aload_n 0, 1) := by decide +kernel
theorem dM_findLike_99 : decode cM_findLike 99 = .ok (.getfield 135, 3) := by decide +kernel
theorem dM_findLike_102 : decode cM_findLike 102 = .ok (.ishl, 1) := by decide +kernel
theorem dM_findLike_103 : decode cM_findLike 103 = .ok (.if_icmp .ge 180, 3) := by decide +kernel
theorem dM_findLike_106 : decode cM_findLike 106 = .ok (.iconst 0, 1) := by decide +kernel
theorem dM_findLike_107 : decode cM_findLike 107 = .ok (.istore_n 2, 1) := by decide +kernel
theorem dM_findLike_108 : decode cM_findLike 108 = .ok (.iload_n 2, 1) := by decide +kernel
theorem dM_findLike_109 : decode cM_findLike 109 = .ok (.bipush 6, 2) := by decide +kernel
theorem dM_findLike_111 : decode cM_findLike 111 = .ok (.if_icmp .ge 16, 3) := by decide +kernel
theorem dM_findLike_114 : decode cM_findLike 114 = .ok (.aload_n 0, 1) := by decide +kernel
theorem dM_findLike_115 : decode cM_findLike 115 = .ok (.getfield 31, 3) := by decide +kernel
theorem dM_findLike_118 : decode cM_findLike 118 = .ok (.iload_n 2, 1) := by decide +kernel
theorem dM_findLike_119 : decode cM_findLike 119 = .ok (.iconst 0, 1) := by decide +kernel
theorem dM_findLike_120 : decode cM_findLike 120 = .ok (.iastore, 1) := by decide +kernel
theorem dM_findLike_121 : decode cM_findLike 121 = .ok (.iinc 2 1, 3) := by decide +kernel
theorem dM_findLike_124 : decode cM_findLike 124 = .ok (.goto (-16), 3) := by decide +kernel
theorem dM_findLike_127 : decode cM_findLike 127 = .ok (.iconst 0, 1) := by decide +kernel
theorem dM_findLike_128 : decode cM_findLike 128 = .ok (.istore_n 2, 1) := by decide +kernel
theorem dM_findLike_129 : decode cM_findLike 129 = .ok (.iload_n 2, 1) := by decide +kernel
theorem dM_findLike_130 : decode cM_findLike 130 = .ok (.aload_n 0, 1) := by decide +kernel
theorem dM_findLike_131 : decode cM_findLike 131 = .ok (.getfield 135, 3) := by decide +kernel
theorem dM_findLike_134 : decode cM_findLike 134 = .ok (.if_icmp .ge 76, 3) := by decide +kernel
theorem dM_findLike_137 : decode cM_findLike 137 = .ok (.iload_n 1, 1) := by decide +kernel
theorem dM_findLike_138 : decode cM_findLike 138 = .ok (.iload_n 2, 1) := by decide +kernel
theorem dM_findLike_139 : decode cM_findLike 139 = .ok (.invokestatic 62, 3) := by decide +kernel
theorem dM_findLike_142 : decode cM_findLike 142 = .ok (.ifCond .eq 12, 3) := by decide +kernel
theorem dM_findLike_145 : decode cM_findLike 145 = .ok (.aload_n 0, 1) := by decide +kernel
theorem dM_findLike_146 : decode cM_findLike 146 = .ok (.getfield 28, 3) := by decide +kernel
theorem dM_findLike_149 : decode cM_findLike 149 = .ok (.iload_n 2, 1) := by decide +kernel
theorem dM_findLike_150 : decode cM_findLike 150 = .ok (.iaload, 1) := by decide +kernel
theorem dM_findLike_151 : decode cM_findLike 151 = .ok (.goto 9, 3) := by decide +kernel
theorem dM_findLike_154 : decode cM_findLike 154 = .ok (.aload_n 0, 1) := by decide +kernel
theorem dM_findLike_155 : decode cM_findLike 155 = .ok (.getfield 25, 3) := by decide +kernel
theorem dM_findLike_158 : decode cM_findLike 158 = .ok (.iload_n 2, 1) := by decide +kernel
theorem dM_findLike_159 : decode cM_findLike 159 = .ok (.iaload, 1) := by decide +kernel
theorem dM_findLike_160 : decode cM_findLike 160 = .ok (.istore_n 3, 1) := by decide +kernel
theorem dM_findLike_161 : decode cM_findLike 161 = .ok (.iload_n 1, 1) := by decide +kernel
theorem dM_findLike_162 : decode cM_findLike 162 = .ok (.iload_n 2, 1) := by decide +kernel
theorem dM_findLike_163 : decode cM_findLike 163 = .ok (.invokestatic 62, 3) := by decide +kernel
theorem dM_findLike_166 : decode cM_findLike 166 = .ok (.ifCond .eq 12, 3) := by decide +kernel
theorem dM_findLike_169 : decode cM_findLike 169 = .ok (.aload_n 0, 1) := by decide +kernel
theorem dM_findLike_170 : decode cM_findLike 170 = .ok (.getfield 25, 3) := by decide +kernel
theorem dM_findLike_173 : decode cM_findLike 173 = .ok (.iload_n 2, 1) := by decide +kernel
theorem dM_findLike_174 : decode cM_findLike 174 = .ok (.iaload, 1) := by decide +kernel
theorem dM_findLike_175 : decode cM_findLike 175 = .ok (.goto 9, 3) := by decide +kernel
theorem dM_findLike_178 : decode cM_findLike 178 = .ok (.aload_n 0, 1) := by decide +kernel
theorem dM_findLike_179 : decode cM_findLike 179 = .ok (.getfield 28, 3) := by decide +kernel
theorem dM_findLike_182 : decode cM_findLike 182 = .ok (.iload_n 2, 1) := by decide +kernel
theorem dM_findLike_183 : decode cM_findLike 183 = .ok (.iaload, 1) := by decide +kernel
theorem dM_findLike_184 : decode cM_findLike 184 = .ok (.istore 4, 2) := by decide +kernel
theorem dM_findLike_186 : decode cM_findLike 186 = .ok (.aload_n 0, 1) := by decide +kernel
theorem dM_findLike_187 : decode cM_findLike 187 = .ok (.getfield 31, 3) := by decide +kernel
theorem dM_findLike_190 : decode cM_findLike 190 = .ok (.iload 4, 2) := by decide +kernel
theorem dM_findLike_192 : decode cM_findLike 192 = .ok (.aload_n 0, 1) := by decide +kernel
theorem dM_findLike_193 : decode cM_findLike 193 = .ok (.getfield 31, 3) := by decide +kernel
theorem dM_findLike_196 : decode cM_findLike 196 = .ok (.iload 4, 2) := by decide +kernel
theorem dM_findLike_198 : decode cM_findLike 198 = .ok (.iaload, 1) := by decide +kernel
theorem dM_findLike_199 : decode cM_findLike 199 = .ok (.iconst 1, 1) := by decide +kernel
theorem dM_findLike_200 : decode cM_findLike 200 = .ok (.iload_n 3, 1) := by decide +kernel
theorem dM_findLike_201 : decode cM_findLike 201 = .ok (.ishl, 1) := by decide +kernel
theorem dM_findLike_202 : decode cM_findLike 202 = .ok (.ior, 1) := by decide +kernel
theorem dM_findLike_203 : decode cM_findLike 203 = .ok (.iastore, 1) := by decide +kernel
theorem dM_findLike_204 : decode cM_findLike 204 = .ok (.iinc 2 1, 3) := by decide +kernel
theorem dM_findLike_207 : decode cM_findLike 207 = .ok (.goto (-78), 3) := by decide +kernel
theorem dM_findLike_210 : decode cM_findLike 210 = .ok (.aload_n 0, 1) := by decide +kernel
theorem dM_findLike_211 : decode cM_findLike 211 = .ok (.aload_n 0, 1) := by decide +kernel
theorem dM_findLike_212 : decode cM_findLike 212 = .ok (.invokevirtual 44, 3) := by decide +kernel
theorem dM_findLike_215 : decode cM_findLike 215 = .ok (.invokevirtual 141, 3) := by decide +kernel
theorem dM_findLike_218 : decode cM_findLike 218 = .ok (.ifCond .eq 59, 3) := by decide +kernel
theorem dM_findLike_221 : decode cM_findLike 221 = .ok (.aload_n 0, 1) := by decide +kernel
theorem dM_findLike_222 : decode cM_findLike 222 = .ok (.aload_n 0, 1) := by decide +kernel
theorem dM_findLike_223 : decode cM_findLike 223 = .ok (.invokevirtual 44, 3) := by decide +kernel
theorem dM_findLike_226 : decode cM_findLike 226 = .ok (.invokevirtual 144, 3) := by decide +kernel
theorem dM_findLike_229 : decode cM_findLike 229 = .ok (.ifCond .eq 48, 3) := by decide +kernel
theorem dM_findLike_232 : decode cM_findLike 232 = .ok (.aload_n 0, 1) := by decide +kernel
theorem dM_findLike_233 : decode cM_findLike 233 = .ok (.dup, 1) := by decide +kernel
theorem dM_findLike_234 : decode cM_findLike 234 = .ok (.getfield 138, 3) := by decide +kernel
theorem dM_findLike_237 : decode cM_findLike 237 = .ok (.iconst 1, 1) := by decide +kernel
theorem dM_findLike_238 : decode cM_findLike 238 = .ok (.iadd, 1) := by decide +kernel
theorem dM_findLike_239 : decode cM_findLike 239 = .ok (.putfield 138, 3) := by decide +kernel
theorem dM_findLike_242 : decode cM_findLike 242 = .ok (.iconst 0, 1) := by decide +kernel
theorem dM_findLike_243 : decode cM_findLike 243 = .ok (.istore_n 2, 1) := by decide +kernel
theorem dM_findLike_244 : decode cM_findLike 244 = .ok (.iload_n 2, 1) := by decide +kernel
theorem dM_findLike_245 : decode cM_findLike 245 = .ok (.aload_n 0, 1) := by decide +kernel
theorem dM_findLike_246 : decode cM_findLike 246 = .ok (.invokevirtual 44, 3) := by decide +kernel
theorem dM_findLike_249 : decode cM_findLike 249 = .ok (.if_icmp .ge 28, 3) := by decide +kernel
theorem dM_findLike_252 : decode cM_findLike 252 = .ok (.aload_n 0, 1) := by decide +kernel
theorem dM_findLike_253 : decode cM_findLike 253 = .ok (.getfield 34, 3) := by decide +kernel
theorem dM_findLike_256 : decode cM_findLike 256 = .ok (.iload_n 2, 1) := by decide +kernel
theorem dM_findLike_257 : decode cM_findLike 257 = .ok (.aload_n 0, 1) := by decide +kernel
theorem dM_findLike_258 : decode cM_findLike 258 = .ok (.getfield 34, 3) := by decide +kernel
theorem dM_findLike_261 : decode cM_findLike 261 = .ok (.iload_n 2, 1) := by decide +kernel
theorem dM_findLike_262 : decode cM_findLike 262 = .ok (.iaload, 1) := by decide +kernel
theorem dM_findLike_263 : decode cM_findLike 263 = .ok (.aload_n 0, 1) := by decide +kernel
theorem dM_findLike_264 : decode cM_findLike 264 = .ok (.getfield 31, 3) := by decide +kernel
theorem dM_findLike_267 : decode cM_findLike 267 = .ok (.iload_n 2, 1) := by decide +kernel
theorem dM_findLike_268 : decode cM_findLike 268 = .ok (.iaload, 1) := by decide +kernel
theorem dM_findLike_269 : decode cM_findLike 269 = .ok (.iand, 1) := by decide +kernel
theorem dM_findLike_270 : decode cM_findLike 270 = .ok (.iastore, 1) := by decide +kernel
theorem dM_findLike_271 : decode cM_findLike 271 = .ok (.iinc 2 1, 3) := by decide +kernel
theorem dM_findLike_274 : decode cM_findLike 274 = .ok (.goto (-30), 3) := by decide +kernel
theorem dM_findLike_277 : decode cM_findLike 277 = .ok (.iinc 1 1, 3) := by decide +kernel
theorem dM_findLike_280 : decode cM_findLike 280 = .ok (.goto (-184), 3) := by decide +kernel
theorem dM_findLike_283 : decode cM_findLike 283 = .ok (.return_, 1) := by decide +kernel
theorem tw_3_3 : (Jvm.Cond.fieldLink "ActSurgeryModel" (135 : Nat) "ActSurgeryModel" "pairs" "I") ∈ x_GT := x_t3 3 rfl rfl
theorem tw_3_178 : (Jvm.Cond.instanceMethod ({ cls := "ActSurgeryModel", name := "hasNoRing", desc := "(I)Z" } : Jvm.MethodName)) ∈ x_GT := x_t3 178 rfl rfl
theorem tws_51 : (Jvm.Cond.selects "ActSurgeryModel" ({ cls := "ActSurgeryModel", name := "hasNoRing", desc := "(I)Z" } : Jvm.MethodName) ({ cls := "ActSurgeryModel", name := "hasNoRing", desc := "(I)Z" } : Jvm.MethodName)) ∈ x_GT := x_ts 51 rfl rfl
theorem tw_3_179 : (Jvm.Cond.code ({ cls := "ActSurgeryModel", name := "hasNoRing", desc := "(I)Z" } : Jvm.MethodName) prog_7_method_42_code (5 : Nat) (Option.some Jvm.ClassFile.FieldType.boolean)) ∈ x_GT := x_t3 179 rfl rfl
theorem tw_3_176 : (Jvm.Cond.methodLink "ActSurgeryModel" (141 : Nat) ({ cls := "ActSurgeryModel", name := "hasNoRing", desc := "(I)Z" } : Jvm.MethodName)) ∈ x_GT := x_t3 176 rfl rfl
theorem kM_141 : x_kV "ActSurgeryModel" 141 yM_hasNoRing cM_hasNoRing 5 (some .boolean) 1 5 := ⟨tw_3_178, tws_51, tw_3_179, tw_1_6, tw_3_176, (by decide +kernel), rfl⟩
theorem tw_3_182 : (Jvm.Cond.instanceMethod ({ cls := "ActSurgeryModel", name := "hasShape", desc := "(I)Z" } : Jvm.MethodName)) ∈ x_GT := x_t3 182 rfl rfl
theorem tws_52 : (Jvm.Cond.selects "ActSurgeryModel" ({ cls := "ActSurgeryModel", name := "hasShape", desc := "(I)Z" } : Jvm.MethodName) ({ cls := "ActSurgeryModel", name := "hasShape", desc := "(I)Z" } : Jvm.MethodName)) ∈ x_GT := x_ts 52 rfl rfl
theorem tw_3_183 : (Jvm.Cond.code ({ cls := "ActSurgeryModel", name := "hasShape", desc := "(I)Z" } : Jvm.MethodName) prog_7_method_41_code (6 : Nat) (Option.some Jvm.ClassFile.FieldType.boolean)) ∈ x_GT := x_t3 183 rfl rfl
theorem tw_3_180 : (Jvm.Cond.methodLink "ActSurgeryModel" (144 : Nat) ({ cls := "ActSurgeryModel", name := "hasShape", desc := "(I)Z" } : Jvm.MethodName)) ∈ x_GT := x_t3 180 rfl rfl
theorem kM_144 : x_kV "ActSurgeryModel" 144 yM_hasShape cM_hasShape 6 (some .boolean) 1 5 := ⟨tw_3_182, tws_52, tw_3_183, tw_1_6, tw_3_180, (by decide +kernel), rfl⟩
theorem tw_3_6 : (Jvm.Cond.fieldLink "ActSurgeryModel" (138 : Nat) "ActSurgeryModel" "likeMany" "I") ∈ x_GT := x_t3 6 rfl rfl
def fM_findLike_244 (k96 : x_W → Nat → Int32 → Option x_W) : Nat → x_W → Nat → Int32 → Int32 → Option x_W
  | 0, _, _, _, _ => none
  | n + 1, w, v0, v1, v2 =>
    (x_ob w v0 5).bind fun _ =>
    (fM_n w v0).bind fun t2 =>
    if t2 ≤ v2 then
      k96 w v0 (v1 + (1 : Int32))
    else
      (x_fr w v0 5 10).bind fun t4 =>
      (x_ai w t4 v2).bind fun t5 =>
      (x_fr w v0 5 9).bind fun t6 =>
      (x_ai w t6 v2).bind fun t7 =>
      (x_pa w t4 v2 (t5 &&& t7)).bind fun w8 =>
      fM_findLike_244 k96 n w8 v0 v1 (v2 + (1 : Int32))
def fM_findLike_129 (k96 : x_W → Nat → Int32 → Option x_W) : Nat → x_W → Nat → Int32 → Int32 → Option x_W
  | 0, _, _, _, _ => none
  | n + 1, w, v0, v1, v2 =>
    (x_fi w v0 5 8).bind fun t1 =>
    if t1 ≤ v2 then
      (fM_n w v0).bind fun t3 =>
      (fM_hasNoRing w v0 t3).bind fun t4 =>
      if t4 = (0 : Int32) then
        k96 w v0 (v1 + (1 : Int32))
      else
        (fM_n w v0).bind fun t6 =>
        (fM_hasShape w v0 t6).bind fun t7 =>
        if t7 = (0 : Int32) then
          k96 w v0 (v1 + (1 : Int32))
        else
          (x_fi w v0 5 11).bind fun t9 =>
          (x_pf w v0 5 11 (.int (t9 + (1 : Int32)))).bind fun w10 =>
          fM_findLike_244 k96 x_F w10 v0 v1 (0 : Int32)
    else
      if (fM_has v1 v2) = (0 : Int32) then
        (x_fr w v0 5 6).bind fun t12 =>
        (x_ai w t12 v2).bind fun t13 =>
        if (fM_has v1 v2) = (0 : Int32) then
          (x_fr w v0 5 7).bind fun t15 =>
          (x_ai w t15 v2).bind fun t16 =>
          (x_fr w v0 5 9).bind fun t17 =>
          (x_ai w t17 t16).bind fun t18 =>
          (x_pa w t17 t16 (t18 ||| ((1 : Int32) <<< (t13 &&& 31)))).bind fun w19 =>
          fM_findLike_129 k96 n w19 v0 v1 (v2 + (1 : Int32))
        else
          (x_fr w v0 5 9).bind fun t20 =>
          (x_ai w t20 t13).bind fun t21 =>
          (x_pa w t20 t13 (t21 ||| ((1 : Int32) <<< (t13 &&& 31)))).bind fun w22 =>
          fM_findLike_129 k96 n w22 v0 v1 (v2 + (1 : Int32))
      else
        (x_fr w v0 5 7).bind fun t23 =>
        (x_ai w t23 v2).bind fun t24 =>
        if (fM_has v1 v2) = (0 : Int32) then
          (x_fr w v0 5 9).bind fun t26 =>
          (x_ai w t26 t24).bind fun t27 =>
          (x_pa w t26 t24 (t27 ||| ((1 : Int32) <<< (t24 &&& 31)))).bind fun w28 =>
          fM_findLike_129 k96 n w28 v0 v1 (v2 + (1 : Int32))
        else
          (x_fr w v0 5 6).bind fun t29 =>
          (x_ai w t29 v2).bind fun t30 =>
          (x_fr w v0 5 9).bind fun t31 =>
          (x_ai w t31 t30).bind fun t32 =>
          (x_pa w t31 t30 (t32 ||| ((1 : Int32) <<< (t24 &&& 31)))).bind fun w33 =>
          fM_findLike_129 k96 n w33 v0 v1 (v2 + (1 : Int32))
def fM_findLike_108 (k96 : x_W → Nat → Int32 → Option x_W) : Nat → x_W → Nat → Int32 → Int32 → Option x_W
  | 0, _, _, _, _ => none
  | n + 1, w, v0, v1, v2 =>
    if (6 : Int32) ≤ v2 then
      fM_findLike_129 k96 x_F w v0 v1 (0 : Int32)
    else
      (x_fr w v0 5 9).bind fun t2 =>
      (x_pa w t2 v2 (0 : Int32)).bind fun w3 =>
      fM_findLike_108 k96 n w3 v0 v1 (v2 + (1 : Int32))
def fM_findLike_96  : Nat → x_W → Nat → Int32 → Option x_W
  | 0, _, _, _ => none
  | n + 1, w, v0, v1 =>
    (x_fi w v0 5 8).bind fun t1 =>
    if ((1 : Int32) <<< (t1 &&& 31)) ≤ v1 then
      some w
    else
      fM_findLike_108 (fM_findLike_96 n) x_F w v0 v1 (0 : Int32)
def fM_findLike_29 (k7 : x_W → Nat → Int32 → Option x_W) : Nat → x_W → Nat → Int32 → Int32 → Option x_W
  | 0, _, _, _, _ => none
  | n + 1, w, v0, v1, v2 =>
    if v1 ≤ v2 then
      k7 w v0 (v1 + (1 : Int32))
    else
      (x_fr w v0 5 1).bind fun t2 =>
      (x_ai w t2 v1).bind fun t3 =>
      if (fM_has t3 v2) = (0 : Int32) then
        fM_findLike_29 k7 n w v0 v1 (v2 + (1 : Int32))
      else
        (x_fr w v0 5 6).bind fun t5 =>
        (x_fi w v0 5 8).bind fun t6 =>
        (x_pa w t5 t6 v2).bind fun w7 =>
        (x_fr w7 v0 5 7).bind fun t8 =>
        (x_fi w7 v0 5 8).bind fun t9 =>
        (x_pa w7 t8 t9 v1).bind fun w10 =>
        (x_fi w10 v0 5 8).bind fun t11 =>
        (x_pf w10 v0 5 8 (.int (t11 + (1 : Int32)))).bind fun w12 =>
        fM_findLike_29 k7 n w12 v0 v1 (v2 + (1 : Int32))
def fM_findLike_7  : Nat → x_W → Nat → Int32 → Option x_W
  | 0, _, _, _ => none
  | n + 1, w, v0, v1 =>
    (x_ob w v0 5).bind fun _ =>
    (fM_n w v0).bind fun t2 =>
    if t2 ≤ v1 then
      (x_pf w v0 5 11 (.int (0 : Int32))).bind fun w4 =>
      fM_findLike_96 x_F w4 v0 (0 : Int32)
    else
      (x_fr w v0 5 10).bind fun t5 =>
      (x_fr w v0 5 1).bind fun t6 =>
      (x_ai w t6 v1).bind fun t7 =>
      (x_pa w t5 v1 t7).bind fun w8 =>
      fM_findLike_29 (fM_findLike_7 n) x_F w8 v0 v1 (0 : Int32)
def fM_findLike  (w : x_W) (v0 : Nat) : Option x_W :=
  (x_pf w v0 5 8 (.int (0 : Int32))).bind fun w1 =>
  fM_findLike_7 x_F w1 v0 (0 : Int32)
set_option maxHeartbeats 4000000 in
set_option maxRecDepth 100000 in
theorem lM_findLike_244 (d : Nat) (hd : 4 ≤ d) {K : Option Value → x_W → Prop} {r : x_W} (hK : K none r) {k96 : x_W → Nat → Int32 → Option x_W} (hk96 : ∀ (w : x_W) (v0 : Nat) (v1 : Int32), k96 w v0 v1 = some r → x_G none yM_findLike cM_findLike 5 none (x_room d 0 0) (x_QM K 0 0) 96 [some (.ref v0), some (.int v1), none, none, none] [] w 0 0) : ∀ (n : Nat) (w : x_W) (v0 : Nat) (v1 : Int32) (v2 : Int32), fM_findLike_244 k96 n w v0 v1 v2 = some r → x_G none yM_findLike cM_findLike 5 none (x_room d 0 0) (x_QM K 0 0) 244 [some (.ref v0), some (.int v1), some (.int v2), none, none] [] w 0 0 := by
  intro n
  induction n with
  | zero => intro w v0 v1 v2 h; rw [fM_findLike_244] at h; cases h
  | succ n ih =>
    intro w v0 v1 v2 h
    rw [fM_findLike_244] at h
    refine g_iload_n 245 (i := 2) dM_findLike_244 rfl rfl rfl ?_
    refine g_aload_n 246 (i := 0) dM_findLike_245 rfl rfl rfl ?_
    obtain ⟨_, e1, h⟩ := x_bind h
    obtain ⟨t2, e2, h⟩ := x_bind h
    refine g_cV 249 (some (.int t2)) w [] [.int v2] dM_findLike_246 rfl (fun _ hK2 => mM_n (d - 1) (by omega) e2 hK2) (x_ob_some e1) kM_44 (x_rm (Nat.le_trans (by decide) hd) (by decide)) ⟨Nat.zero_le _, Nat.zero_le _⟩ (Nat.le_of_ble_eq_true rfl) rfl ?_
    by_cases c3 : t2 ≤ v2
    · rw [if_pos c3] at h
      refine g_icmp_ge_t 277 dM_findLike_249 (by decide) c3 ?_
      refine g_iinc 280 [some (.ref v0), some (.int (v1 + (1 : Int32))), some (.int v2), none, none] dM_findLike_277 rfl rfl (x_inc (1 : Int32) (by decide)) rfl (by decide) ?_
      refine g_goto 96 dM_findLike_280 (by decide) ?_
      refine g_less [some (.ref v0), some (.int (v1 + (1 : Int32))), none, none, none] ⟨rfl, rfl, trivial⟩ ?_
      exact hk96 _ _ _ h
    · rw [if_neg c3] at h
      refine g_icmp_ge_f 252 277 dM_findLike_249 (by decide) rfl c3 ?_
      refine g_aload_n 253 (i := 0) dM_findLike_252 rfl rfl rfl ?_
      obtain ⟨t4, e4, h⟩ := x_bind h
      refine g_getfR 256 5 10 dM_findLike_253 rfl x_in5 tw_3_5 rfl (by decide) e4 ?_
      refine g_iload_n 257 (i := 2) dM_findLike_256 rfl rfl rfl ?_
      refine g_aload_n 258 (i := 0) dM_findLike_257 rfl rfl rfl ?_
      refine g_getfR 261 5 10 dM_findLike_258 rfl x_in5 tw_3_5 rfl (by decide) e4 ?_
      refine g_iload_n 262 (i := 2) dM_findLike_261 rfl rfl rfl ?_
      obtain ⟨t5, e5, h⟩ := x_bind h
      refine g_iald 263 dM_findLike_262 rfl e5 ?_
      refine g_aload_n 264 (i := 0) dM_findLike_263 rfl rfl rfl ?_
      obtain ⟨t6, e6, h⟩ := x_bind h
      refine g_getfR 267 5 9 dM_findLike_264 rfl x_in5 tw_3_4 rfl (by decide) e6 ?_
      refine g_iload_n 268 (i := 2) dM_findLike_267 rfl rfl rfl ?_
      obtain ⟨t7, e7, h⟩ := x_bind h
      refine g_iald 269 dM_findLike_268 rfl e7 ?_
      refine g_iand 270 dM_findLike_269 rfl ?_
      obtain ⟨w8, e8, h⟩ := x_bind h
      refine g_iast 271 dM_findLike_270 rfl e8 ?_
      refine g_iinc 274 [some (.ref v0), some (.int v1), some (.int (v2 + (1 : Int32))), none, none] dM_findLike_271 rfl rfl (x_inc (1 : Int32) (by decide)) rfl (by decide) ?_
      refine g_goto 244 dM_findLike_274 (by decide) ?_
      exact ih _ _ _ _ h
set_option maxHeartbeats 4000000 in
set_option maxRecDepth 100000 in
theorem lM_findLike_129 (d : Nat) (hd : 4 ≤ d) {K : Option Value → x_W → Prop} {r : x_W} (hK : K none r) {k96 : x_W → Nat → Int32 → Option x_W} (hk96 : ∀ (w : x_W) (v0 : Nat) (v1 : Int32), k96 w v0 v1 = some r → x_G none yM_findLike cM_findLike 5 none (x_room d 0 0) (x_QM K 0 0) 96 [some (.ref v0), some (.int v1), none, none, none] [] w 0 0) : ∀ (n : Nat) (w : x_W) (v0 : Nat) (v1 : Int32) (v2 : Int32), fM_findLike_129 k96 n w v0 v1 v2 = some r → x_G none yM_findLike cM_findLike 5 none (x_room d 0 0) (x_QM K 0 0) 129 [some (.ref v0), some (.int v1), some (.int v2), none, none] [] w 0 0 := by
  intro n
  induction n with
  | zero => intro w v0 v1 v2 h; rw [fM_findLike_129] at h; cases h
  | succ n ih =>
    intro w v0 v1 v2 h
    rw [fM_findLike_129] at h
    refine g_iload_n 130 (i := 2) dM_findLike_129 rfl rfl rfl ?_
    refine g_aload_n 131 (i := 0) dM_findLike_130 rfl rfl rfl ?_
    obtain ⟨t1, e1, h⟩ := x_bind h
    refine g_getfI 134 5 8 dM_findLike_131 rfl x_in5 tw_3_3 rfl (by decide) e1 ?_
    by_cases c2 : t1 ≤ v2
    · rw [if_pos c2] at h
      refine g_icmp_ge_t 210 dM_findLike_134 (by decide) c2 ?_
      refine g_aload_n 211 (i := 0) dM_findLike_210 rfl rfl rfl ?_
      refine g_aload_n 212 (i := 0) dM_findLike_211 rfl rfl rfl ?_
      obtain ⟨t3, e3, h⟩ := x_bind h
      refine g_cV 215 (some (.int t3)) w [] [.ref v0] dM_findLike_212 rfl (fun _ hK2 => mM_n (d - 1) (by omega) e3 hK2) (x_fi_ob e1) kM_44 (x_rm (Nat.le_trans (by decide) hd) (by decide)) ⟨Nat.zero_le _, Nat.zero_le _⟩ (Nat.le_of_ble_eq_true rfl) rfl ?_
      obtain ⟨t4, e4, h⟩ := x_bind h
      refine g_cV 218 (some (.int t4)) w [.int t3] [] dM_findLike_215 rfl (fun _ hK2 => mM_hasNoRing (d - 1) (by omega) e4 hK2) (x_fi_ob e1) kM_141 (x_rm (Nat.le_trans (by decide) hd) (by decide)) ⟨Nat.zero_le _, Nat.zero_le _⟩ (Nat.le_of_ble_eq_true rfl) rfl ?_
      by_cases c5 : t4 = (0 : Int32)
      · rw [if_pos c5] at h
        refine g_if_eq_t 277 dM_findLike_218 (by decide) c5 ?_
        refine g_iinc 280 [some (.ref v0), some (.int (v1 + (1 : Int32))), some (.int v2), none, none] dM_findLike_277 rfl rfl (x_inc (1 : Int32) (by decide)) rfl (by decide) ?_
        refine g_goto 96 dM_findLike_280 (by decide) ?_
        refine g_less [some (.ref v0), some (.int (v1 + (1 : Int32))), none, none, none] ⟨rfl, rfl, trivial⟩ ?_
        exact hk96 _ _ _ h
      · rw [if_neg c5] at h
        refine g_if_eq_f 221 277 dM_findLike_218 (by decide) rfl c5 ?_
        refine g_aload_n 222 (i := 0) dM_findLike_221 rfl rfl rfl ?_
        refine g_aload_n 223 (i := 0) dM_findLike_222 rfl rfl rfl ?_
        obtain ⟨t6, e6, h⟩ := x_bind h
        refine g_cV 226 (some (.int t6)) w [] [.ref v0] dM_findLike_223 rfl (fun _ hK2 => mM_n (d - 1) (by omega) e6 hK2) (x_fi_ob e1) kM_44 (x_rm (Nat.le_trans (by decide) hd) (by decide)) ⟨Nat.zero_le _, Nat.zero_le _⟩ (Nat.le_of_ble_eq_true rfl) rfl ?_
        obtain ⟨t7, e7, h⟩ := x_bind h
        refine g_cV 229 (some (.int t7)) w [.int t6] [] dM_findLike_226 rfl (fun _ hK2 => mM_hasShape (d - 1) (by omega) e7 hK2) (x_fi_ob e1) kM_144 (x_rm (Nat.le_trans (by decide) hd) (by decide)) ⟨Nat.zero_le _, Nat.zero_le _⟩ (Nat.le_of_ble_eq_true rfl) rfl ?_
        by_cases c8 : t7 = (0 : Int32)
        · rw [if_pos c8] at h
          refine g_if_eq_t 277 dM_findLike_229 (by decide) c8 ?_
          refine g_iinc 280 [some (.ref v0), some (.int (v1 + (1 : Int32))), some (.int v2), none, none] dM_findLike_277 rfl rfl (x_inc (1 : Int32) (by decide)) rfl (by decide) ?_
          refine g_goto 96 dM_findLike_280 (by decide) ?_
          refine g_less [some (.ref v0), some (.int (v1 + (1 : Int32))), none, none, none] ⟨rfl, rfl, trivial⟩ ?_
          exact hk96 _ _ _ h
        · rw [if_neg c8] at h
          refine g_if_eq_f 232 277 dM_findLike_229 (by decide) rfl c8 ?_
          refine g_aload_n 233 (i := 0) dM_findLike_232 rfl rfl rfl ?_
          refine g_dup 234 dM_findLike_233 rfl rfl ?_
          obtain ⟨t9, e9, h⟩ := x_bind h
          refine g_getfI 237 5 11 dM_findLike_234 rfl x_in5 tw_3_6 rfl (by decide) e9 ?_
          refine g_iconst 238 (1 : Int32) dM_findLike_237 rfl (by decide) ?_
          refine g_iadd 239 dM_findLike_238 rfl ?_
          obtain ⟨w10, e10, h⟩ := x_bind h
          refine g_putf 242 5 11 xy5 xy5_ok xn5 dM_findLike_239 rfl x_in5 tw_3_6 rfl (by decide) rfl (fun _ _ => ⟨rfl, rfl⟩) e10 ?_
          refine g_iconst 243 (0 : Int32) dM_findLike_242 rfl (by decide) ?_
          refine g_istore_n 244 (i := 2) [some (.ref v0), some (.int v1), some (.int (0 : Int32)), none, none] dM_findLike_243 rfl rfl rfl (by decide) ?_
          exact lM_findLike_244 d hd hK hk96 x_F _ _ _ _ h
    · rw [if_neg c2] at h
      refine g_icmp_ge_f 137 210 dM_findLike_134 (by decide) rfl c2 ?_
      refine g_iload_n 138 (i := 1) dM_findLike_137 rfl rfl rfl ?_
      refine g_iload_n 139 (i := 2) dM_findLike_138 rfl rfl rfl ?_
      refine g_cS 142 (some (.int (fM_has v1 v2))) w [.int v1, .int v2] [] dM_findLike_139 rfl (fun _ hK2 => mM_has (d - 1) (by omega) rfl hK2) kM_62 (x_rm (Nat.le_trans (by decide) hd) (by decide)) ⟨Nat.zero_le _, Nat.zero_le _⟩ (Nat.le_of_ble_eq_true rfl) rfl ?_
      by_cases c11 : (fM_has v1 v2) = (0 : Int32)
      · rw [if_pos c11] at h
        refine g_if_eq_t 154 dM_findLike_142 (by decide) c11 ?_
        refine g_aload_n 155 (i := 0) dM_findLike_154 rfl rfl rfl ?_
        obtain ⟨t12, e12, h⟩ := x_bind h
        refine g_getfR 158 5 6 dM_findLike_155 rfl x_in5 tw_3_1 rfl (by decide) e12 ?_
        refine g_iload_n 159 (i := 2) dM_findLike_158 rfl rfl rfl ?_
        obtain ⟨t13, e13, h⟩ := x_bind h
        refine g_iald 160 dM_findLike_159 rfl e13 ?_
        refine g_istore_n 161 (i := 3) [some (.ref v0), some (.int v1), some (.int v2), some (.int t13), none] dM_findLike_160 rfl rfl rfl (by decide) ?_
        refine g_iload_n 162 (i := 1) dM_findLike_161 rfl rfl rfl ?_
        refine g_iload_n 163 (i := 2) dM_findLike_162 rfl rfl rfl ?_
        refine g_cS 166 (some (.int (fM_has v1 v2))) w [.int v1, .int v2] [] dM_findLike_163 rfl (fun _ hK2 => mM_has (d - 1) (by omega) rfl hK2) kM_62 (x_rm (Nat.le_trans (by decide) hd) (by decide)) ⟨Nat.zero_le _, Nat.zero_le _⟩ (Nat.le_of_ble_eq_true rfl) rfl ?_
        by_cases c14 : (fM_has v1 v2) = (0 : Int32)
        · rw [if_pos c14] at h
          refine g_if_eq_t 178 dM_findLike_166 (by decide) c14 ?_
          refine g_aload_n 179 (i := 0) dM_findLike_178 rfl rfl rfl ?_
          obtain ⟨t15, e15, h⟩ := x_bind h
          refine g_getfR 182 5 7 dM_findLike_179 rfl x_in5 tw_3_2 rfl (by decide) e15 ?_
          refine g_iload_n 183 (i := 2) dM_findLike_182 rfl rfl rfl ?_
          obtain ⟨t16, e16, h⟩ := x_bind h
          refine g_iald 184 dM_findLike_183 rfl e16 ?_
          refine g_istore 186 [some (.ref v0), some (.int v1), some (.int v2), some (.int t13), some (.int t16)] dM_findLike_184 rfl rfl (by decide) ?_
          refine g_aload_n 187 (i := 0) dM_findLike_186 rfl rfl rfl ?_
          obtain ⟨t17, e17, h⟩ := x_bind h
          refine g_getfR 190 5 9 dM_findLike_187 rfl x_in5 tw_3_4 rfl (by decide) e17 ?_
          refine g_iload 192 dM_findLike_190 rfl rfl ?_
          refine g_aload_n 193 (i := 0) dM_findLike_192 rfl rfl rfl ?_
          refine g_getfR 196 5 9 dM_findLike_193 rfl x_in5 tw_3_4 rfl (by decide) e17 ?_
          refine g_iload 198 dM_findLike_196 rfl rfl ?_
          obtain ⟨t18, e18, h⟩ := x_bind h
          refine g_iald 199 dM_findLike_198 rfl e18 ?_
          refine g_iconst 200 (1 : Int32) dM_findLike_199 rfl (by decide) ?_
          refine g_iload_n 201 (i := 3) dM_findLike_200 rfl rfl rfl ?_
          refine g_ishl 202 dM_findLike_201 rfl ?_
          refine g_ior 203 dM_findLike_202 rfl ?_
          obtain ⟨w19, e19, h⟩ := x_bind h
          refine g_iast 204 dM_findLike_203 rfl e19 ?_
          refine g_iinc 207 [some (.ref v0), some (.int v1), some (.int (v2 + (1 : Int32))), some (.int t13), some (.int t16)] dM_findLike_204 rfl rfl (x_inc (1 : Int32) (by decide)) rfl (by decide) ?_
          refine g_goto 129 dM_findLike_207 (by decide) ?_
          refine g_less [some (.ref v0), some (.int v1), some (.int (v2 + (1 : Int32))), none, none] ⟨rfl, rfl, rfl, trivial⟩ ?_
          exact ih _ _ _ _ h
        · rw [if_neg c14] at h
          refine g_if_eq_f 169 178 dM_findLike_166 (by decide) rfl c14 ?_
          refine g_aload_n 170 (i := 0) dM_findLike_169 rfl rfl rfl ?_
          refine g_getfR 173 5 6 dM_findLike_170 rfl x_in5 tw_3_1 rfl (by decide) e12 ?_
          refine g_iload_n 174 (i := 2) dM_findLike_173 rfl rfl rfl ?_
          refine g_iald 175 dM_findLike_174 rfl e13 ?_
          refine g_goto 184 dM_findLike_175 (by decide) ?_
          refine g_istore 186 [some (.ref v0), some (.int v1), some (.int v2), some (.int t13), some (.int t13)] dM_findLike_184 rfl rfl (by decide) ?_
          refine g_aload_n 187 (i := 0) dM_findLike_186 rfl rfl rfl ?_
          obtain ⟨t20, e20, h⟩ := x_bind h
          refine g_getfR 190 5 9 dM_findLike_187 rfl x_in5 tw_3_4 rfl (by decide) e20 ?_
          refine g_iload 192 dM_findLike_190 rfl rfl ?_
          refine g_aload_n 193 (i := 0) dM_findLike_192 rfl rfl rfl ?_
          refine g_getfR 196 5 9 dM_findLike_193 rfl x_in5 tw_3_4 rfl (by decide) e20 ?_
          refine g_iload 198 dM_findLike_196 rfl rfl ?_
          obtain ⟨t21, e21, h⟩ := x_bind h
          refine g_iald 199 dM_findLike_198 rfl e21 ?_
          refine g_iconst 200 (1 : Int32) dM_findLike_199 rfl (by decide) ?_
          refine g_iload_n 201 (i := 3) dM_findLike_200 rfl rfl rfl ?_
          refine g_ishl 202 dM_findLike_201 rfl ?_
          refine g_ior 203 dM_findLike_202 rfl ?_
          obtain ⟨w22, e22, h⟩ := x_bind h
          refine g_iast 204 dM_findLike_203 rfl e22 ?_
          refine g_iinc 207 [some (.ref v0), some (.int v1), some (.int (v2 + (1 : Int32))), some (.int t13), some (.int t13)] dM_findLike_204 rfl rfl (x_inc (1 : Int32) (by decide)) rfl (by decide) ?_
          refine g_goto 129 dM_findLike_207 (by decide) ?_
          refine g_less [some (.ref v0), some (.int v1), some (.int (v2 + (1 : Int32))), none, none] ⟨rfl, rfl, rfl, trivial⟩ ?_
          exact ih _ _ _ _ h
      · rw [if_neg c11] at h
        refine g_if_eq_f 145 154 dM_findLike_142 (by decide) rfl c11 ?_
        refine g_aload_n 146 (i := 0) dM_findLike_145 rfl rfl rfl ?_
        obtain ⟨t23, e23, h⟩ := x_bind h
        refine g_getfR 149 5 7 dM_findLike_146 rfl x_in5 tw_3_2 rfl (by decide) e23 ?_
        refine g_iload_n 150 (i := 2) dM_findLike_149 rfl rfl rfl ?_
        obtain ⟨t24, e24, h⟩ := x_bind h
        refine g_iald 151 dM_findLike_150 rfl e24 ?_
        refine g_goto 160 dM_findLike_151 (by decide) ?_
        refine g_istore_n 161 (i := 3) [some (.ref v0), some (.int v1), some (.int v2), some (.int t24), none] dM_findLike_160 rfl rfl rfl (by decide) ?_
        refine g_iload_n 162 (i := 1) dM_findLike_161 rfl rfl rfl ?_
        refine g_iload_n 163 (i := 2) dM_findLike_162 rfl rfl rfl ?_
        refine g_cS 166 (some (.int (fM_has v1 v2))) w [.int v1, .int v2] [] dM_findLike_163 rfl (fun _ hK2 => mM_has (d - 1) (by omega) rfl hK2) kM_62 (x_rm (Nat.le_trans (by decide) hd) (by decide)) ⟨Nat.zero_le _, Nat.zero_le _⟩ (Nat.le_of_ble_eq_true rfl) rfl ?_
        by_cases c25 : (fM_has v1 v2) = (0 : Int32)
        · rw [if_pos c25] at h
          refine g_if_eq_t 178 dM_findLike_166 (by decide) c25 ?_
          refine g_aload_n 179 (i := 0) dM_findLike_178 rfl rfl rfl ?_
          refine g_getfR 182 5 7 dM_findLike_179 rfl x_in5 tw_3_2 rfl (by decide) e23 ?_
          refine g_iload_n 183 (i := 2) dM_findLike_182 rfl rfl rfl ?_
          refine g_iald 184 dM_findLike_183 rfl e24 ?_
          refine g_istore 186 [some (.ref v0), some (.int v1), some (.int v2), some (.int t24), some (.int t24)] dM_findLike_184 rfl rfl (by decide) ?_
          refine g_aload_n 187 (i := 0) dM_findLike_186 rfl rfl rfl ?_
          obtain ⟨t26, e26, h⟩ := x_bind h
          refine g_getfR 190 5 9 dM_findLike_187 rfl x_in5 tw_3_4 rfl (by decide) e26 ?_
          refine g_iload 192 dM_findLike_190 rfl rfl ?_
          refine g_aload_n 193 (i := 0) dM_findLike_192 rfl rfl rfl ?_
          refine g_getfR 196 5 9 dM_findLike_193 rfl x_in5 tw_3_4 rfl (by decide) e26 ?_
          refine g_iload 198 dM_findLike_196 rfl rfl ?_
          obtain ⟨t27, e27, h⟩ := x_bind h
          refine g_iald 199 dM_findLike_198 rfl e27 ?_
          refine g_iconst 200 (1 : Int32) dM_findLike_199 rfl (by decide) ?_
          refine g_iload_n 201 (i := 3) dM_findLike_200 rfl rfl rfl ?_
          refine g_ishl 202 dM_findLike_201 rfl ?_
          refine g_ior 203 dM_findLike_202 rfl ?_
          obtain ⟨w28, e28, h⟩ := x_bind h
          refine g_iast 204 dM_findLike_203 rfl e28 ?_
          refine g_iinc 207 [some (.ref v0), some (.int v1), some (.int (v2 + (1 : Int32))), some (.int t24), some (.int t24)] dM_findLike_204 rfl rfl (x_inc (1 : Int32) (by decide)) rfl (by decide) ?_
          refine g_goto 129 dM_findLike_207 (by decide) ?_
          refine g_less [some (.ref v0), some (.int v1), some (.int (v2 + (1 : Int32))), none, none] ⟨rfl, rfl, rfl, trivial⟩ ?_
          exact ih _ _ _ _ h
        · rw [if_neg c25] at h
          refine g_if_eq_f 169 178 dM_findLike_166 (by decide) rfl c25 ?_
          refine g_aload_n 170 (i := 0) dM_findLike_169 rfl rfl rfl ?_
          obtain ⟨t29, e29, h⟩ := x_bind h
          refine g_getfR 173 5 6 dM_findLike_170 rfl x_in5 tw_3_1 rfl (by decide) e29 ?_
          refine g_iload_n 174 (i := 2) dM_findLike_173 rfl rfl rfl ?_
          obtain ⟨t30, e30, h⟩ := x_bind h
          refine g_iald 175 dM_findLike_174 rfl e30 ?_
          refine g_goto 184 dM_findLike_175 (by decide) ?_
          refine g_istore 186 [some (.ref v0), some (.int v1), some (.int v2), some (.int t24), some (.int t30)] dM_findLike_184 rfl rfl (by decide) ?_
          refine g_aload_n 187 (i := 0) dM_findLike_186 rfl rfl rfl ?_
          obtain ⟨t31, e31, h⟩ := x_bind h
          refine g_getfR 190 5 9 dM_findLike_187 rfl x_in5 tw_3_4 rfl (by decide) e31 ?_
          refine g_iload 192 dM_findLike_190 rfl rfl ?_
          refine g_aload_n 193 (i := 0) dM_findLike_192 rfl rfl rfl ?_
          refine g_getfR 196 5 9 dM_findLike_193 rfl x_in5 tw_3_4 rfl (by decide) e31 ?_
          refine g_iload 198 dM_findLike_196 rfl rfl ?_
          obtain ⟨t32, e32, h⟩ := x_bind h
          refine g_iald 199 dM_findLike_198 rfl e32 ?_
          refine g_iconst 200 (1 : Int32) dM_findLike_199 rfl (by decide) ?_
          refine g_iload_n 201 (i := 3) dM_findLike_200 rfl rfl rfl ?_
          refine g_ishl 202 dM_findLike_201 rfl ?_
          refine g_ior 203 dM_findLike_202 rfl ?_
          obtain ⟨w33, e33, h⟩ := x_bind h
          refine g_iast 204 dM_findLike_203 rfl e33 ?_
          refine g_iinc 207 [some (.ref v0), some (.int v1), some (.int (v2 + (1 : Int32))), some (.int t24), some (.int t30)] dM_findLike_204 rfl rfl (x_inc (1 : Int32) (by decide)) rfl (by decide) ?_
          refine g_goto 129 dM_findLike_207 (by decide) ?_
          refine g_less [some (.ref v0), some (.int v1), some (.int (v2 + (1 : Int32))), none, none] ⟨rfl, rfl, rfl, trivial⟩ ?_
          exact ih _ _ _ _ h
set_option maxHeartbeats 4000000 in
set_option maxRecDepth 100000 in
theorem lM_findLike_108 (d : Nat) (hd : 4 ≤ d) {K : Option Value → x_W → Prop} {r : x_W} (hK : K none r) {k96 : x_W → Nat → Int32 → Option x_W} (hk96 : ∀ (w : x_W) (v0 : Nat) (v1 : Int32), k96 w v0 v1 = some r → x_G none yM_findLike cM_findLike 5 none (x_room d 0 0) (x_QM K 0 0) 96 [some (.ref v0), some (.int v1), none, none, none] [] w 0 0) : ∀ (n : Nat) (w : x_W) (v0 : Nat) (v1 : Int32) (v2 : Int32), fM_findLike_108 k96 n w v0 v1 v2 = some r → x_G none yM_findLike cM_findLike 5 none (x_room d 0 0) (x_QM K 0 0) 108 [some (.ref v0), some (.int v1), some (.int v2), none, none] [] w 0 0 := by
  intro n
  induction n with
  | zero => intro w v0 v1 v2 h; rw [fM_findLike_108] at h; cases h
  | succ n ih =>
    intro w v0 v1 v2 h
    rw [fM_findLike_108] at h
    refine g_iload_n 109 (i := 2) dM_findLike_108 rfl rfl rfl ?_
    refine g_bipush 111 (6 : Int32) dM_findLike_109 rfl (by decide) ?_
    by_cases c1 : (6 : Int32) ≤ v2
    · rw [if_pos c1] at h
      refine g_icmp_ge_t 127 dM_findLike_111 (by decide) c1 ?_
      refine g_iconst 128 (0 : Int32) dM_findLike_127 rfl (by decide) ?_
      refine g_istore_n 129 (i := 2) [some (.ref v0), some (.int v1), some (.int (0 : Int32)), none, none] dM_findLike_128 rfl rfl rfl (by decide) ?_
      exact lM_findLike_129 d hd hK hk96 x_F _ _ _ _ h
    · rw [if_neg c1] at h
      refine g_icmp_ge_f 114 127 dM_findLike_111 (by decide) rfl c1 ?_
      refine g_aload_n 115 (i := 0) dM_findLike_114 rfl rfl rfl ?_
      obtain ⟨t2, e2, h⟩ := x_bind h
      refine g_getfR 118 5 9 dM_findLike_115 rfl x_in5 tw_3_4 rfl (by decide) e2 ?_
      refine g_iload_n 119 (i := 2) dM_findLike_118 rfl rfl rfl ?_
      refine g_iconst 120 (0 : Int32) dM_findLike_119 rfl (by decide) ?_
      obtain ⟨w3, e3, h⟩ := x_bind h
      refine g_iast 121 dM_findLike_120 rfl e3 ?_
      refine g_iinc 124 [some (.ref v0), some (.int v1), some (.int (v2 + (1 : Int32))), none, none] dM_findLike_121 rfl rfl (x_inc (1 : Int32) (by decide)) rfl (by decide) ?_
      refine g_goto 108 dM_findLike_124 (by decide) ?_
      exact ih _ _ _ _ h
set_option maxHeartbeats 4000000 in
set_option maxRecDepth 100000 in
theorem lM_findLike_96 (d : Nat) (hd : 4 ≤ d) {K : Option Value → x_W → Prop} {r : x_W} (hK : K none r) : ∀ (n : Nat) (w : x_W) (v0 : Nat) (v1 : Int32), fM_findLike_96 n w v0 v1 = some r → x_G none yM_findLike cM_findLike 5 none (x_room d 0 0) (x_QM K 0 0) 96 [some (.ref v0), some (.int v1), none, none, none] [] w 0 0 := by
  intro n
  induction n with
  | zero => intro w v0 v1 h; rw [fM_findLike_96] at h; cases h
  | succ n ih =>
    intro w v0 v1 h
    rw [fM_findLike_96] at h
    refine g_iload_n 97 (i := 1) dM_findLike_96 rfl rfl rfl ?_
    refine g_iconst 98 (1 : Int32) dM_findLike_97 rfl (by decide) ?_
    refine g_aload_n 99 (i := 0) dM_findLike_98 rfl rfl rfl ?_
    obtain ⟨t1, e1, h⟩ := x_bind h
    refine g_getfI 102 5 8 dM_findLike_99 rfl x_in5 tw_3_3 rfl (by decide) e1 ?_
    refine g_ishl 103 dM_findLike_102 rfl ?_
    by_cases c2 : ((1 : Int32) <<< (t1 &&& 31)) ≤ v1
    · rw [if_pos c2] at h
      refine g_icmp_ge_t 283 dM_findLike_103 (by decide) c2 ?_
      obtain rfl := Option.some.inj h
      exact g_vret rfl dM_findLike_283 hK
    · rw [if_neg c2] at h
      refine g_icmp_ge_f 106 283 dM_findLike_103 (by decide) rfl c2 ?_
      refine g_iconst 107 (0 : Int32) dM_findLike_106 rfl (by decide) ?_
      refine g_istore_n 108 (i := 2) [some (.ref v0), some (.int v1), some (.int (0 : Int32)), none, none] dM_findLike_107 rfl rfl rfl (by decide) ?_
      exact lM_findLike_108 d hd hK (fun _ _ _ hz => ih _ _ _ hz) x_F _ _ _ _ h
set_option maxHeartbeats 4000000 in
set_option maxRecDepth 100000 in
theorem lM_findLike_29 (d : Nat) (hd : 4 ≤ d) {K : Option Value → x_W → Prop} {r : x_W} (hK : K none r) {k7 : x_W → Nat → Int32 → Option x_W} (hk7 : ∀ (w : x_W) (v0 : Nat) (v1 : Int32), k7 w v0 v1 = some r → x_G none yM_findLike cM_findLike 5 none (x_room d 0 0) (x_QM K 0 0) 7 [some (.ref v0), some (.int v1), none, none, none] [] w 0 0) : ∀ (n : Nat) (w : x_W) (v0 : Nat) (v1 : Int32) (v2 : Int32), fM_findLike_29 k7 n w v0 v1 v2 = some r → x_G none yM_findLike cM_findLike 5 none (x_room d 0 0) (x_QM K 0 0) 29 [some (.ref v0), some (.int v1), some (.int v2), none, none] [] w 0 0 := by
  intro n
  induction n with
  | zero => intro w v0 v1 v2 h; rw [fM_findLike_29] at h; cases h
  | succ n ih =>
    intro w v0 v1 v2 h
    rw [fM_findLike_29] at h
    refine g_iload_n 30 (i := 2) dM_findLike_29 rfl rfl rfl ?_
    refine g_iload_n 31 (i := 1) dM_findLike_30 rfl rfl rfl ?_
    by_cases c1 : v1 ≤ v2
    · rw [if_pos c1] at h
      refine g_icmp_ge_t 83 dM_findLike_31 (by decide) c1 ?_
      refine g_iinc 86 [some (.ref v0), some (.int (v1 + (1 : Int32))), some (.int v2), none, none] dM_findLike_83 rfl rfl (x_inc (1 : Int32) (by decide)) rfl (by decide) ?_
      refine g_goto 7 dM_findLike_86 (by decide) ?_
      refine g_less [some (.ref v0), some (.int (v1 + (1 : Int32))), none, none, none] ⟨rfl, rfl, trivial⟩ ?_
      exact hk7 _ _ _ h
    · rw [if_neg c1] at h
      refine g_icmp_ge_f 34 83 dM_findLike_31 (by decide) rfl c1 ?_
      refine g_aload_n 35 (i := 0) dM_findLike_34 rfl rfl rfl ?_
      obtain ⟨t2, e2, h⟩ := x_bind h
      refine g_getfR 38 5 1 dM_findLike_35 rfl x_in5 tw_2_236 rfl (by decide) e2 ?_
      refine g_iload_n 39 (i := 1) dM_findLike_38 rfl rfl rfl ?_
      obtain ⟨t3, e3, h⟩ := x_bind h
      refine g_iald 40 dM_findLike_39 rfl e3 ?_
      refine g_iload_n 41 (i := 2) dM_findLike_40 rfl rfl rfl ?_
      refine g_cS 44 (some (.int (fM_has t3 v2))) w [.int t3, .int v2] [] dM_findLike_41 rfl (fun _ hK2 => mM_has (d - 1) (by omega) rfl hK2) kM_62 (x_rm (Nat.le_trans (by decide) hd) (by decide)) ⟨Nat.zero_le _, Nat.zero_le _⟩ (Nat.le_of_ble_eq_true rfl) rfl ?_
      by_cases c4 : (fM_has t3 v2) = (0 : Int32)
      · rw [if_pos c4] at h
        refine g_if_eq_t 77 dM_findLike_44 (by decide) c4 ?_
        refine g_iinc 80 [some (.ref v0), some (.int v1), some (.int (v2 + (1 : Int32))), none, none] dM_findLike_77 rfl rfl (x_inc (1 : Int32) (by decide)) rfl (by decide) ?_
        refine g_goto 29 dM_findLike_80 (by decide) ?_
        exact ih _ _ _ _ h
      · rw [if_neg c4] at h
        refine g_if_eq_f 47 77 dM_findLike_44 (by decide) rfl c4 ?_
        refine g_aload_n 48 (i := 0) dM_findLike_47 rfl rfl rfl ?_
        obtain ⟨t5, e5, h⟩ := x_bind h
        refine g_getfR 51 5 6 dM_findLike_48 rfl x_in5 tw_3_1 rfl (by decide) e5 ?_
        refine g_aload_n 52 (i := 0) dM_findLike_51 rfl rfl rfl ?_
        obtain ⟨t6, e6, h⟩ := x_bind h
        refine g_getfI 55 5 8 dM_findLike_52 rfl x_in5 tw_3_3 rfl (by decide) e6 ?_
        refine g_iload_n 56 (i := 2) dM_findLike_55 rfl rfl rfl ?_
        obtain ⟨w7, e7, h⟩ := x_bind h
        refine g_iast 57 dM_findLike_56 rfl e7 ?_
        refine g_aload_n 58 (i := 0) dM_findLike_57 rfl rfl rfl ?_
        obtain ⟨t8, e8, h⟩ := x_bind h
        refine g_getfR 61 5 7 dM_findLike_58 rfl x_in5 tw_3_2 rfl (by decide) e8 ?_
        refine g_aload_n 62 (i := 0) dM_findLike_61 rfl rfl rfl ?_
        obtain ⟨t9, e9, h⟩ := x_bind h
        refine g_getfI 65 5 8 dM_findLike_62 rfl x_in5 tw_3_3 rfl (by decide) e9 ?_
        refine g_iload_n 66 (i := 1) dM_findLike_65 rfl rfl rfl ?_
        obtain ⟨w10, e10, h⟩ := x_bind h
        refine g_iast 67 dM_findLike_66 rfl e10 ?_
        refine g_aload_n 68 (i := 0) dM_findLike_67 rfl rfl rfl ?_
        refine g_dup 69 dM_findLike_68 rfl rfl ?_
        obtain ⟨t11, e11, h⟩ := x_bind h
        refine g_getfI 72 5 8 dM_findLike_69 rfl x_in5 tw_3_3 rfl (by decide) e11 ?_
        refine g_iconst 73 (1 : Int32) dM_findLike_72 rfl (by decide) ?_
        refine g_iadd 74 dM_findLike_73 rfl ?_
        obtain ⟨w12, e12, h⟩ := x_bind h
        refine g_putf 77 5 8 xy5 xy5_ok xn5 dM_findLike_74 rfl x_in5 tw_3_3 rfl (by decide) rfl (fun _ _ => ⟨rfl, rfl⟩) e12 ?_
        refine g_iinc 80 [some (.ref v0), some (.int v1), some (.int (v2 + (1 : Int32))), none, none] dM_findLike_77 rfl rfl (x_inc (1 : Int32) (by decide)) rfl (by decide) ?_
        refine g_goto 29 dM_findLike_80 (by decide) ?_
        exact ih _ _ _ _ h
set_option maxHeartbeats 4000000 in
set_option maxRecDepth 100000 in
theorem lM_findLike_7 (d : Nat) (hd : 4 ≤ d) {K : Option Value → x_W → Prop} {r : x_W} (hK : K none r) : ∀ (n : Nat) (w : x_W) (v0 : Nat) (v1 : Int32), fM_findLike_7 n w v0 v1 = some r → x_G none yM_findLike cM_findLike 5 none (x_room d 0 0) (x_QM K 0 0) 7 [some (.ref v0), some (.int v1), none, none, none] [] w 0 0 := by
  intro n
  induction n with
  | zero => intro w v0 v1 h; rw [fM_findLike_7] at h; cases h
  | succ n ih =>
    intro w v0 v1 h
    rw [fM_findLike_7] at h
    refine g_iload_n 8 (i := 1) dM_findLike_7 rfl rfl rfl ?_
    refine g_aload_n 9 (i := 0) dM_findLike_8 rfl rfl rfl ?_
    obtain ⟨_, e1, h⟩ := x_bind h
    obtain ⟨t2, e2, h⟩ := x_bind h
    refine g_cV 12 (some (.int t2)) w [] [.int v1] dM_findLike_9 rfl (fun _ hK2 => mM_n (d - 1) (by omega) e2 hK2) (x_ob_some e1) kM_44 (x_rm (Nat.le_trans (by decide) hd) (by decide)) ⟨Nat.zero_le _, Nat.zero_le _⟩ (Nat.le_of_ble_eq_true rfl) rfl ?_
    by_cases c3 : t2 ≤ v1
    · rw [if_pos c3] at h
      refine g_icmp_ge_t 89 dM_findLike_12 (by decide) c3 ?_
      refine g_aload_n 90 (i := 0) dM_findLike_89 rfl rfl rfl ?_
      refine g_iconst 91 (0 : Int32) dM_findLike_90 rfl (by decide) ?_
      obtain ⟨w4, e4, h⟩ := x_bind h
      refine g_putf 94 5 11 xy5 xy5_ok xn5 dM_findLike_91 rfl x_in5 tw_3_6 rfl (by decide) rfl (fun _ _ => ⟨rfl, rfl⟩) e4 ?_
      refine g_iconst 95 (0 : Int32) dM_findLike_94 rfl (by decide) ?_
      refine g_istore_n 96 (i := 1) [some (.ref v0), some (.int (0 : Int32)), none, none, none] dM_findLike_95 rfl rfl rfl (by decide) ?_
      exact lM_findLike_96 d hd hK x_F _ _ _ h
    · rw [if_neg c3] at h
      refine g_icmp_ge_f 15 89 dM_findLike_12 (by decide) rfl c3 ?_
      refine g_aload_n 16 (i := 0) dM_findLike_15 rfl rfl rfl ?_
      obtain ⟨t5, e5, h⟩ := x_bind h
      refine g_getfR 19 5 10 dM_findLike_16 rfl x_in5 tw_3_5 rfl (by decide) e5 ?_
      refine g_iload_n 20 (i := 1) dM_findLike_19 rfl rfl rfl ?_
      refine g_aload_n 21 (i := 0) dM_findLike_20 rfl rfl rfl ?_
      obtain ⟨t6, e6, h⟩ := x_bind h
      refine g_getfR 24 5 1 dM_findLike_21 rfl x_in5 tw_2_236 rfl (by decide) e6 ?_
      refine g_iload_n 25 (i := 1) dM_findLike_24 rfl rfl rfl ?_
      obtain ⟨t7, e7, h⟩ := x_bind h
      refine g_iald 26 dM_findLike_25 rfl e7 ?_
      obtain ⟨w8, e8, h⟩ := x_bind h
      refine g_iast 27 dM_findLike_26 rfl e8 ?_
      refine g_iconst 28 (0 : Int32) dM_findLike_27 rfl (by decide) ?_
      refine g_istore_n 29 (i := 2) [some (.ref v0), some (.int v1), some (.int (0 : Int32)), none, none] dM_findLike_28 rfl rfl rfl (by decide) ?_
      exact lM_findLike_29 d hd hK (fun _ _ _ hz => ih _ _ _ hz) x_F _ _ _ _ h
set_option maxHeartbeats 4000000 in
set_option maxRecDepth 100000 in
theorem mM_findLike (d : Nat) (hd : 4 ≤ d) {K : Option Value → x_W → Prop} {w : x_W} {v0 : Nat} {r : x_W} (h : fM_findLike w v0 = some r) (hK : K none r) : x_M yM_findLike cM_findLike 5 none d 0 0 [.ref v0] w K := by
  refine x_M.of [some (.ref v0), none, none, none, none] (by decide) rfl (Nat.le_of_ble_eq_true rfl) ?_
  unfold fM_findLike at h
  refine g_aload_n 1 (i := 0) dM_findLike_0 rfl rfl rfl ?_
  refine g_iconst 2 (0 : Int32) dM_findLike_1 rfl (by decide) ?_
  obtain ⟨w1, e1, h⟩ := x_bind h
  refine g_putf 5 5 8 xy5 xy5_ok xn5 dM_findLike_2 rfl x_in5 tw_3_3 rfl (by decide) rfl (fun _ _ => ⟨rfl, rfl⟩) e1 ?_
  refine g_iconst 6 (0 : Int32) dM_findLike_5 rfl (by decide) ?_
  refine g_istore_n 7 (i := 1) [some (.ref v0), some (.int (0 : Int32)), none, none, none] dM_findLike_6 rfl rfl rfl (by decide) ?_
  exact lM_findLike_7 d hd hK x_F _ _ _ h
/-! ActSurgeryModel.sureFrom(I)I: level P -/
theorem dM_sureFrom_0 : decode cM_sureFrom 0 = .ok (.iconst 0, 1) := by decide +kernel
theorem dM_sureFrom_1 : decode cM_sureFrom 1 = .ok (.istore_n 2, 1) := by decide +kernel
theorem dM_sureFrom_2 : decode cM_sureFrom 2 = .ok (.iconst 0, 1) := by decide +kernel
theorem dM_sureFrom_3 : decode cM_sureFrom 3 = .ok (.istore_n 3, 1) := by decide +kernel
theorem dM_sureFrom_4 : decode cM_sureFrom 4 = .ok (.iload_n 3, 1) := by decide +kernel
theorem dM_sureFrom_5 : decode cM_sureFrom 5 = .ok (.aload_n 0, 1) := by decide +kernel
theorem dM_sureFrom_6 : decode cM_sureFrom 6 = .ok (.invokevirtual 44, 3) := by decide +kernel
theorem dM_sureFrom_9 : decode cM_sureFrom 9 = .ok (.if_icmp .ge 32, 3) := by decide +kernel
theorem dM_sureFrom_12 : decode cM_sureFrom 12 = .ok (.aload_n 0, 1) := by decide +kernel
theorem dM_sureFrom_13 : decode cM_sureFrom 13 = .ok (.getfield 34, 3) := by decide +kernel
theorem dM_sureFrom_16 : decode cM_sureFrom 16 = .ok (.iload_n 3, 1) := by decide +kernel
theorem dM_sureFrom_17 : decode cM_sureFrom 17 = .ok (.iaload, 1) := by decide +kernel
theorem dM_sureFrom_18 : decode cM_sureFrom 18 = .ok (.iload_n 1, 1) := by decide +kernel
theorem dM_sureFrom_19 : decode cM_sureFrom 19 = .ok (.invokestatic 62, 3) := by decide +kernel
theorem dM_sureFrom_22 : decode cM_sureFrom 22 = .ok (.ifCond .eq 11, 3) := by decide +kernel
theorem dM_sureFrom_25 : decode cM_sureFrom 25 = .ok (.iload_n 2, 1) := by decide +kernel
theorem dM_sureFrom_26 : decode cM_sureFrom 26 = .ok (.iconst 1, 1) := by decide +kernel
theorem dM_sureFrom_27 : decode cM_sureFrom 27 = .ok (.iload_n 3, 1) := by decide +kernel
theorem dM_sureFrom_28 : decode cM_sureFrom 28 = .ok (.ishl, 1) := by decide +kernel
theorem dM_sureFrom_29 : decode cM_sureFrom 29 = .ok (.ior, 1) := by decide +kernel
theorem dM_sureFrom_30 : decode cM_sureFrom 30 = .ok (.goto 4, 3) := by decide +kernel
theorem dM_sureFrom_33 : decode cM_sureFrom 33 = .ok (.iload_n 2, 1) := by decide +kernel
theorem dM_sureFrom_34 : decode cM_sureFrom 34 = .ok (.istore_n 2, 1) := by decide +kernel
theorem dM_sureFrom_35 : decode cM_sureFrom 35 = .ok (.iinc 3 1, 3) := by decide +kernel
theorem dM_sureFrom_38 : decode cM_sureFrom 38 = .ok (.goto (-34), 3) := by decide +kernel
theorem dM_sureFrom_41 : decode cM_sureFrom 41 = .ok (.iload_n 2, 1) := by decide +kernel
theorem dM_sureFrom_42 : decode cM_sureFrom 42 = .ok (.ireturn, 1) := by decide +kernel
def fM_sureFrom_4 (w : x_W) : Nat → Nat → Int32 → Int32 → Int32 → Option Int32
  | 0, _, _, _, _ => none
  | n + 1, v0, v1, v2, v3 =>
    (x_ob w v0 5).bind fun _ =>
    (fM_n w v0).bind fun t2 =>
    if t2 ≤ v3 then
      some v2
    else
      (x_fr w v0 5 10).bind fun t4 =>
      (x_ai w t4 v3).bind fun t5 =>
      if (fM_has t5 v1) = (0 : Int32) then
        fM_sureFrom_4 w n v0 v1 v2 (v3 + (1 : Int32))
      else
        fM_sureFrom_4 w n v0 v1 (v2 ||| ((1 : Int32) <<< (v3 &&& 31))) (v3 + (1 : Int32))
def fM_sureFrom (w : x_W) (v0 : Nat) (v1 : Int32) : Option Int32 :=
  fM_sureFrom_4 w x_F v0 v1 (0 : Int32) (0 : Int32)
set_option maxHeartbeats 4000000 in
set_option maxRecDepth 100000 in
theorem lM_sureFrom_4 (d : Nat) (hd : 2 ≤ d) {K : Option Value → x_W → Prop} {r : Int32} {w : x_W} (hK : K (some (.int r)) w) : ∀ (n : Nat) (v0 : Nat) (v1 : Int32) (v2 : Int32) (v3 : Int32), fM_sureFrom_4 w n v0 v1 v2 v3 = some r → x_G none yM_sureFrom cM_sureFrom 4 (some .int) (x_room d 0 0) (x_QM K 0 0) 4 [some (.ref v0), some (.int v1), some (.int v2), some (.int v3)] [] w 0 0 := by
  intro n
  induction n with
  | zero => intro v0 v1 v2 v3 h; rw [fM_sureFrom_4] at h; cases h
  | succ n ih =>
    intro v0 v1 v2 v3 h
    rw [fM_sureFrom_4] at h
    refine g_iload_n 5 (i := 3) dM_sureFrom_4 rfl rfl rfl ?_
    refine g_aload_n 6 (i := 0) dM_sureFrom_5 rfl rfl rfl ?_
    obtain ⟨_, e1, h⟩ := x_bind h
    obtain ⟨t2, e2, h⟩ := x_bind h
    refine g_cV 9 (some (.int t2)) w [] [.int v3] dM_sureFrom_6 rfl (fun _ hK2 => mM_n (d - 1) (by omega) e2 hK2) (x_ob_some e1) kM_44 (x_rm (Nat.le_trans (by decide) hd) (by decide)) ⟨Nat.zero_le _, Nat.zero_le _⟩ (Nat.le_of_ble_eq_true rfl) rfl ?_
    by_cases c3 : t2 ≤ v3
    · rw [if_pos c3] at h
      refine g_icmp_ge_t 41 dM_sureFrom_9 (by decide) c3 ?_
      refine g_iload_n 42 (i := 2) dM_sureFrom_41 rfl rfl rfl ?_
      obtain rfl := Option.some.inj h
      exact g_iret rfl dM_sureFrom_42 hK
    · rw [if_neg c3] at h
      refine g_icmp_ge_f 12 41 dM_sureFrom_9 (by decide) rfl c3 ?_
      refine g_aload_n 13 (i := 0) dM_sureFrom_12 rfl rfl rfl ?_
      obtain ⟨t4, e4, h⟩ := x_bind h
      refine g_getfR 16 5 10 dM_sureFrom_13 rfl x_in5 tw_3_5 rfl (by decide) e4 ?_
      refine g_iload_n 17 (i := 3) dM_sureFrom_16 rfl rfl rfl ?_
      obtain ⟨t5, e5, h⟩ := x_bind h
      refine g_iald 18 dM_sureFrom_17 rfl e5 ?_
      refine g_iload_n 19 (i := 1) dM_sureFrom_18 rfl rfl rfl ?_
      refine g_cS 22 (some (.int (fM_has t5 v1))) w [.int t5, .int v1] [] dM_sureFrom_19 rfl (fun _ hK2 => mM_has (d - 1) (by omega) rfl hK2) kM_62 (x_rm (Nat.le_trans (by decide) hd) (by decide)) ⟨Nat.zero_le _, Nat.zero_le _⟩ (Nat.le_of_ble_eq_true rfl) rfl ?_
      by_cases c6 : (fM_has t5 v1) = (0 : Int32)
      · rw [if_pos c6] at h
        refine g_if_eq_t 33 dM_sureFrom_22 (by decide) c6 ?_
        refine g_iload_n 34 (i := 2) dM_sureFrom_33 rfl rfl rfl ?_
        refine g_istore_n 35 (i := 2) [some (.ref v0), some (.int v1), some (.int v2), some (.int v3)] dM_sureFrom_34 rfl rfl rfl (by decide) ?_
        refine g_iinc 38 [some (.ref v0), some (.int v1), some (.int v2), some (.int (v3 + (1 : Int32)))] dM_sureFrom_35 rfl rfl (x_inc (1 : Int32) (by decide)) rfl (by decide) ?_
        refine g_goto 4 dM_sureFrom_38 (by decide) ?_
        exact ih _ _ _ _ h
      · rw [if_neg c6] at h
        refine g_if_eq_f 25 33 dM_sureFrom_22 (by decide) rfl c6 ?_
        refine g_iload_n 26 (i := 2) dM_sureFrom_25 rfl rfl rfl ?_
        refine g_iconst 27 (1 : Int32) dM_sureFrom_26 rfl (by decide) ?_
        refine g_iload_n 28 (i := 3) dM_sureFrom_27 rfl rfl rfl ?_
        refine g_ishl 29 dM_sureFrom_28 rfl ?_
        refine g_ior 30 dM_sureFrom_29 rfl ?_
        refine g_goto 34 dM_sureFrom_30 (by decide) ?_
        refine g_istore_n 35 (i := 2) [some (.ref v0), some (.int v1), some (.int (v2 ||| ((1 : Int32) <<< (v3 &&& 31)))), some (.int v3)] dM_sureFrom_34 rfl rfl rfl (by decide) ?_
        refine g_iinc 38 [some (.ref v0), some (.int v1), some (.int (v2 ||| ((1 : Int32) <<< (v3 &&& 31)))), some (.int (v3 + (1 : Int32)))] dM_sureFrom_35 rfl rfl (x_inc (1 : Int32) (by decide)) rfl (by decide) ?_
        refine g_goto 4 dM_sureFrom_38 (by decide) ?_
        exact ih _ _ _ _ h
set_option maxHeartbeats 4000000 in
set_option maxRecDepth 100000 in
theorem mM_sureFrom (d : Nat) (hd : 2 ≤ d) {K : Option Value → x_W → Prop} {w : x_W} {v0 : Nat} {v1 : Int32} {r : Int32} (h : fM_sureFrom w v0 v1 = some r) (hK : K (some (.int r)) w) : x_M yM_sureFrom cM_sureFrom 4 (some .int) d 0 0 [.ref v0, .int v1] w K := by
  refine x_M.of [some (.ref v0), some (.int v1), none, none] (by decide) rfl (Nat.le_of_ble_eq_true rfl) ?_
  unfold fM_sureFrom at h
  refine g_iconst 1 (0 : Int32) dM_sureFrom_0 rfl (by decide) ?_
  refine g_istore_n 2 (i := 2) [some (.ref v0), some (.int v1), some (.int (0 : Int32)), none] dM_sureFrom_1 rfl rfl rfl (by decide) ?_
  refine g_iconst 3 (0 : Int32) dM_sureFrom_2 rfl (by decide) ?_
  refine g_istore_n 4 (i := 3) [some (.ref v0), some (.int v1), some (.int (0 : Int32)), some (.int (0 : Int32))] dM_sureFrom_3 rfl rfl rfl (by decide) ?_
  exact lM_sureFrom_4 d hd hK x_F _ _ _ _ h
