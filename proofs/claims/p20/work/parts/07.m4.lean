/-! ActSurgery.of(II)I: level X -/
theorem dA_of_0 : decode cA_of 0 = .ok (.aload_n 0, 1) := by decide +kernel
theorem dA_of_1 : decode cA_of 1 = .ok (.iload_n 1, 1) := by decide +kernel
theorem dA_of_2 : decode cA_of 2 = .ok (.invokevirtual 54, 3) := by decide +kernel
theorem dA_of_5 : decode cA_of 5 = .ok (.ifCond .ne 6, 3) := by decide +kernel
theorem dA_of_8 : decode cA_of 8 = .ok (.bipush (-2), 2) := by decide +kernel
theorem dA_of_10 : decode cA_of 10 = .ok (.ireturn, 1) := by decide +kernel
theorem dA_of_11 : decode cA_of 11 = .ok (.iload_n 2, 1) := by decide +kernel
theorem dA_of_12 : decode cA_of 12 = .ok (.tableswitch 121 0 5 #[40, 53, 65, 77, 89, 98], 40) := by decide +kernel
theorem dA_of_52 : decode cA_of 52 = .ok (.aload_n 0, 1) := by decide +kernel
theorem dA_of_53 : decode cA_of 53 = .ok (.getfield 10, 3) := by decide +kernel
theorem dA_of_56 : decode cA_of 56 = .ok (.getfield 43, 3) := by decide +kernel
theorem dA_of_59 : decode cA_of 59 = .ok (.getfield 66, 3) := by decide +kernel
theorem dA_of_62 : decode cA_of 62 = .ok (.iload_n 1, 1) := by decide +kernel
theorem dA_of_63 : decode cA_of 63 = .ok (.iaload, 1) := by decide +kernel
theorem dA_of_64 : decode cA_of 64 = .ok (.ireturn, 1) := by decide +kernel
theorem dA_of_65 : decode cA_of 65 = .ok (.aload_n 0, 1) := by decide +kernel
theorem dA_of_66 : decode cA_of 66 = .ok (.getfield 10, 3) := by decide +kernel
theorem dA_of_69 : decode cA_of 69 = .ok (.getfield 43, 3) := by decide +kernel
theorem dA_of_72 : decode cA_of 72 = .ok (.iload_n 1, 1) := by decide +kernel
theorem dA_of_73 : decode cA_of 73 = .ok (.invokevirtual 112, 3) := by decide +kernel
theorem dA_of_76 : decode cA_of 76 = .ok (.ireturn, 1) := by decide +kernel
theorem dA_of_77 : decode cA_of 77 = .ok (.aload_n 0, 1) := by decide +kernel
theorem dA_of_78 : decode cA_of 78 = .ok (.getfield 10, 3) := by decide +kernel
theorem dA_of_81 : decode cA_of 81 = .ok (.getfield 43, 3) := by decide +kernel
theorem dA_of_84 : decode cA_of 84 = .ok (.iload_n 1, 1) := by decide +kernel
theorem dA_of_85 : decode cA_of 85 = .ok (.invokevirtual 115, 3) := by decide +kernel
theorem dA_of_88 : decode cA_of 88 = .ok (.ireturn, 1) := by decide +kernel
theorem dA_of_89 : decode cA_of 89 = .ok (.aload_n 0, 1) := by decide +kernel
theorem dA_of_90 : decode cA_of 90 = .ok (.getfield 10, 3) := by decide +kernel
theorem dA_of_93 : decode cA_of 93 = .ok (.getfield 43, 3) := by decide +kernel
theorem dA_of_96 : decode cA_of 96 = .ok (.iload_n 1, 1) := by decide +kernel
theorem dA_of_97 : decode cA_of 97 = .ok (.invokevirtual 118, 3) := by decide +kernel
theorem dA_of_100 : decode cA_of 100 = .ok (.ireturn, 1) := by decide +kernel
theorem dA_of_101 : decode cA_of 101 = .ok (.aload_n 0, 1) := by decide +kernel
theorem dA_of_102 : decode cA_of 102 = .ok (.getfield 10, 3) := by decide +kernel
theorem dA_of_105 : decode cA_of 105 = .ok (.iload_n 1, 1) := by decide +kernel
theorem dA_of_106 : decode cA_of 106 = .ok (.invokevirtual 121, 3) := by decide +kernel
theorem dA_of_109 : decode cA_of 109 = .ok (.ireturn, 1) := by decide +kernel
theorem dA_of_110 : decode cA_of 110 = .ok (.aload_n 0, 1) := by decide +kernel
theorem dA_of_111 : decode cA_of 111 = .ok (.getfield 29, 3) := by decide +kernel
theorem dA_of_114 : decode cA_of 114 = .ok (.aload_n 0, 1) := by decide +kernel
theorem dA_of_115 : decode cA_of 115 = .ok (.getfield 10, 3) := by decide +kernel
theorem dA_of_118 : decode cA_of 118 = .ok (.getfield 43, 3) := by decide +kernel
theorem dA_of_121 : decode cA_of 121 = .ok (.invokevirtual 96, 3) := by decide +kernel
theorem dA_of_124 : decode cA_of 124 = .ok (.aload_n 0, 1) := by decide +kernel
theorem dA_of_125 : decode cA_of 125 = .ok (.getfield 29, 3) := by decide +kernel
theorem dA_of_128 : decode cA_of 128 = .ok (.iload_n 1, 1) := by decide +kernel
theorem dA_of_129 : decode cA_of 129 = .ok (.invokevirtual 124, 3) := by decide +kernel
theorem dA_of_132 : decode cA_of 132 = .ok (.ireturn, 1) := by decide +kernel
theorem dA_of_133 : decode cA_of 133 = .ok (.bipush (-2), 2) := by decide +kernel
theorem dA_of_135 : decode cA_of 135 = .ok (.ireturn, 1) := by decide +kernel
theorem tw_2_43 : (Jvm.Cond.methodLink "ActSurgery" (112 : Nat) ({ cls := "ActSurgery$Arrows", name := "childrenOf", desc := "(I)I" } : Jvm.MethodName)) ∈ x_GT := x_t2 43 rfl rfl
theorem kA_112 : x_kV "ActSurgery" 112 yR_childrenOf cR_childrenOf 4 (some .int) 1 1 := ⟨tw_1_196, tw_1_197, tw_1_198, tw_1_3, tw_2_43, (by decide +kernel), rfl⟩
theorem tw_2_44 : (Jvm.Cond.methodLink "ActSurgery" (115 : Nat) ({ cls := "ActSurgery$Arrows", name := "afterOf", desc := "(I)I" } : Jvm.MethodName)) ∈ x_GT := x_t2 44 rfl rfl
theorem kA_115 : x_kV "ActSurgery" 115 yR_afterOf cR_afterOf 4 (some .int) 1 1 := ⟨tw_2_36, tw_2_37, tw_2_38, tw_1_3, tw_2_44, (by decide +kernel), rfl⟩
theorem tw_2_46 : (Jvm.Cond.instanceMethod ({ cls := "ActSurgery$Arrows", name := "beforeOf", desc := "(I)I" } : Jvm.MethodName)) ∈ x_GT := x_t2 46 rfl rfl
theorem tw_2_47 : (Jvm.Cond.selects "ActSurgery$Arrows" ({ cls := "ActSurgery$Arrows", name := "beforeOf", desc := "(I)I" } : Jvm.MethodName) ({ cls := "ActSurgery$Arrows", name := "beforeOf", desc := "(I)I" } : Jvm.MethodName)) ∈ x_GT := x_t2 47 rfl rfl
theorem tw_2_48 : (Jvm.Cond.code ({ cls := "ActSurgery$Arrows", name := "beforeOf", desc := "(I)I" } : Jvm.MethodName) prog_2_method_7_code (4 : Nat) (Option.some Jvm.ClassFile.FieldType.int)) ∈ x_GT := x_t2 48 rfl rfl
theorem tw_2_45 : (Jvm.Cond.methodLink "ActSurgery" (118 : Nat) ({ cls := "ActSurgery$Arrows", name := "beforeOf", desc := "(I)I" } : Jvm.MethodName)) ∈ x_GT := x_t2 45 rfl rfl
theorem kA_118 : x_kV "ActSurgery" 118 yR_beforeOf cR_beforeOf 4 (some .int) 1 1 := ⟨tw_2_46, tw_2_47, tw_2_48, tw_1_3, tw_2_45, (by decide +kernel), rfl⟩
theorem tw_2_49 : (Jvm.Cond.methodLink "ActSurgery" (121 : Nat) ({ cls := "ActSurgery$Graph", name := "clumpOf", desc := "(I)I" } : Jvm.MethodName)) ∈ x_GT := x_t2 49 rfl rfl
theorem kA_121 : x_kV "ActSurgery" 121 yG_clumpOf cG_clumpOf 4 (some .int) 1 2 := ⟨tw_1_232, tw_1_233, tw_1_234, tw_1_2, tw_2_49, (by decide +kernel), rfl⟩
theorem tw_2_51 : (Jvm.Cond.instanceMethod ({ cls := "ActSurgery$LikeGraphs", name := "sureFrom", desc := "(I)I" } : Jvm.MethodName)) ∈ x_GT := x_t2 51 rfl rfl
theorem tw_2_52 : (Jvm.Cond.selects "ActSurgery$LikeGraphs" ({ cls := "ActSurgery$LikeGraphs", name := "sureFrom", desc := "(I)I" } : Jvm.MethodName) ({ cls := "ActSurgery$LikeGraphs", name := "sureFrom", desc := "(I)I" } : Jvm.MethodName)) ∈ x_GT := x_t2 52 rfl rfl
theorem tw_2_53 : (Jvm.Cond.code ({ cls := "ActSurgery$LikeGraphs", name := "sureFrom", desc := "(I)I" } : Jvm.MethodName) prog_4_method_9_code (4 : Nat) (Option.some Jvm.ClassFile.FieldType.int)) ∈ x_GT := x_t2 53 rfl rfl
theorem tw_2_50 : (Jvm.Cond.methodLink "ActSurgery" (124 : Nat) ({ cls := "ActSurgery$LikeGraphs", name := "sureFrom", desc := "(I)I" } : Jvm.MethodName)) ∈ x_GT := x_t2 50 rfl rfl
theorem kA_124 : x_kV "ActSurgery" 124 yK_sureFrom cK_sureFrom 4 (some .int) 1 4 := ⟨tw_2_51, tw_2_52, tw_2_53, tw_1_4, tw_2_50, (by decide +kernel), rfl⟩
def fA_of  (w : x_W) (v0 : Nat) (v1 : Int32) (v2 : Int32) : Option (Int32 × x_W) :=
  (x_ob w v0 0).bind fun _ =>
  (fA_isPlace w v0 v1).bind fun t2 =>
  if t2 = (0 : Int32) then
    some ((-2 : Int32), w)
  else
    if v2 = (0 : Int32) then
      (x_fr w v0 0 0).bind fun t5 =>
      (x_fr w t5 2 0).bind fun t6 =>
      (x_fr w t6 1 1).bind fun t7 =>
      (x_ai w t7 v1).bind fun t8 =>
      some (t8, w)
    else
    if v2 = (1 : Int32) then
      (x_fr w v0 0 0).bind fun t10 =>
      (x_fr w t10 2 0).bind fun t11 =>
      (x_ob w t11 1).bind fun _ =>
      (fR_childrenOf w t11 v1).bind fun t13 =>
      some (t13, w)
    else
    if v2 = (2 : Int32) then
      (x_fr w v0 0 0).bind fun t15 =>
      (x_fr w t15 2 0).bind fun t16 =>
      (x_ob w t16 1).bind fun _ =>
      (fR_afterOf w t16 v1).bind fun t18 =>
      some (t18, w)
    else
    if v2 = (3 : Int32) then
      (x_fr w v0 0 0).bind fun t20 =>
      (x_fr w t20 2 0).bind fun t21 =>
      (x_ob w t21 1).bind fun _ =>
      (fR_beforeOf w t21 v1).bind fun t23 =>
      some (t23, w)
    else
    if v2 = (4 : Int32) then
      (x_fr w v0 0 0).bind fun t25 =>
      (x_ob w t25 2).bind fun _ =>
      (fG_clumpOf w t25 v1).bind fun t27 =>
      some (t27, w)
    else
    if v2 = (5 : Int32) then
      (x_fr w v0 0 3).bind fun t29 =>
      (x_fr w v0 0 0).bind fun t30 =>
      (x_fr w t30 2 0).bind fun t31 =>
      (x_ob w t29 4).bind fun _ =>
      (fK_find w t29 t31).bind fun w33 =>
      (x_fr w33 v0 0 3).bind fun t34 =>
      (x_ob w33 t34 4).bind fun _ =>
      (fK_sureFrom w33 t34 v1).bind fun t36 =>
      some (t36, w33)
    else
      some ((-2 : Int32), w)
set_option maxHeartbeats 4000000 in
set_option maxRecDepth 100000 in
theorem mA_of (d : Nat) (hd : 14 ≤ d) {K : Option Value → x_W → Prop} {w : x_W} {v0 : Nat} {v1 : Int32} {v2 : Int32} {r : (Int32 × x_W)} (h : fA_of w v0 v1 v2 = some r) (hK : K (some (.int r.1)) r.2) : x_M yA_of cA_of 3 (some .int) d 0 0 [.ref v0, .int v1, .int v2] w K := by
  refine x_M.of [some (.ref v0), some (.int v1), some (.int v2)] (by decide) rfl (Nat.le_of_ble_eq_true rfl) ?_
  unfold fA_of at h
  refine g_aload_n 1 (i := 0) dA_of_0 rfl rfl rfl ?_
  refine g_iload_n 2 (i := 1) dA_of_1 rfl rfl rfl ?_
  obtain ⟨_, e1, h⟩ := x_bind h
  obtain ⟨t2, e2, h⟩ := x_bind h
  refine g_cV 5 (some (.int t2)) w [.int v1] [] dA_of_2 rfl (fun _ hK2 => mA_isPlace (d - 1) (by omega) e2 hK2) (x_ob_some e1) kA_54 (x_rm (Nat.le_trans (by decide) hd) (by decide)) ⟨Nat.zero_le _, Nat.zero_le _⟩ (Nat.le_of_ble_eq_true rfl) rfl ?_
  by_cases c3 : t2 = (0 : Int32)
  · rw [if_pos c3] at h
    refine g_if_ne_f 8 11 dA_of_5 (by decide) rfl c3 ?_
    refine g_bipush 10 (-2 : Int32) dA_of_8 rfl (by decide) ?_
    obtain rfl := Option.some.inj h
    exact g_iret rfl dA_of_10 hK
  · rw [if_neg c3] at h
    refine g_if_ne_t 11 dA_of_5 (by decide) c3 ?_
    refine g_iload_n 12 (i := 2) dA_of_11 rfl rfl rfl ?_
    by_cases c4 : v2 = (0 : Int32)
    · rw [if_pos c4] at h
      refine g_tabIn 52 (v := (0 : Int32)) dA_of_12 c4 (by decide) (by decide) rfl (by decide) ?_
      refine g_aload_n 53 (i := 0) dA_of_52 rfl rfl rfl ?_
      obtain ⟨t5, e5, h⟩ := x_bind h
      refine g_getfR 56 0 0 dA_of_53 rfl x_in0 tw_1_115 rfl (by decide) e5 ?_
      obtain ⟨t6, e6, h⟩ := x_bind h
      refine g_getfR 59 2 0 dA_of_56 rfl x_in2 tw_1_57 rfl (by decide) e6 ?_
      obtain ⟨t7, e7, h⟩ := x_bind h
      refine g_getfR 62 1 1 dA_of_59 rfl x_in1 tw_1_36 rfl (by decide) e7 ?_
      refine g_iload_n 63 (i := 1) dA_of_62 rfl rfl rfl ?_
      obtain ⟨t8, e8, h⟩ := x_bind h
      refine g_iald 64 dA_of_63 rfl e8 ?_
      obtain rfl := Option.some.inj h
      exact g_iret rfl dA_of_64 hK
    · rw [if_neg c4] at h
      by_cases c9 : v2 = (1 : Int32)
      · rw [if_pos c9] at h
        refine g_tabIn 65 (v := (1 : Int32)) dA_of_12 c9 (by decide) (by decide) rfl (by decide) ?_
        refine g_aload_n 66 (i := 0) dA_of_65 rfl rfl rfl ?_
        obtain ⟨t10, e10, h⟩ := x_bind h
        refine g_getfR 69 0 0 dA_of_66 rfl x_in0 tw_1_115 rfl (by decide) e10 ?_
        obtain ⟨t11, e11, h⟩ := x_bind h
        refine g_getfR 72 2 0 dA_of_69 rfl x_in2 tw_1_57 rfl (by decide) e11 ?_
        refine g_iload_n 73 (i := 1) dA_of_72 rfl rfl rfl ?_
        obtain ⟨_, e12, h⟩ := x_bind h
        obtain ⟨t13, e13, h⟩ := x_bind h
        refine g_cV 76 (some (.int t13)) w [.int v1] [] dA_of_73 rfl (fun _ hK2 => mR_childrenOf (d - 1) (by omega) e13 hK2) (x_ob_some e12) kA_112 (x_rm (Nat.le_trans (by decide) hd) (by decide)) ⟨Nat.zero_le _, Nat.zero_le _⟩ (Nat.le_of_ble_eq_true rfl) rfl ?_
        obtain rfl := Option.some.inj h
        exact g_iret rfl dA_of_76 hK
      · rw [if_neg c9] at h
        by_cases c14 : v2 = (2 : Int32)
        · rw [if_pos c14] at h
          refine g_tabIn 77 (v := (2 : Int32)) dA_of_12 c14 (by decide) (by decide) rfl (by decide) ?_
          refine g_aload_n 78 (i := 0) dA_of_77 rfl rfl rfl ?_
          obtain ⟨t15, e15, h⟩ := x_bind h
          refine g_getfR 81 0 0 dA_of_78 rfl x_in0 tw_1_115 rfl (by decide) e15 ?_
          obtain ⟨t16, e16, h⟩ := x_bind h
          refine g_getfR 84 2 0 dA_of_81 rfl x_in2 tw_1_57 rfl (by decide) e16 ?_
          refine g_iload_n 85 (i := 1) dA_of_84 rfl rfl rfl ?_
          obtain ⟨_, e17, h⟩ := x_bind h
          obtain ⟨t18, e18, h⟩ := x_bind h
          refine g_cV 88 (some (.int t18)) w [.int v1] [] dA_of_85 rfl (fun _ hK2 => mR_afterOf (d - 1) (by omega) e18 hK2) (x_ob_some e17) kA_115 (x_rm (Nat.le_trans (by decide) hd) (by decide)) ⟨Nat.zero_le _, Nat.zero_le _⟩ (Nat.le_of_ble_eq_true rfl) rfl ?_
          obtain rfl := Option.some.inj h
          exact g_iret rfl dA_of_88 hK
        · rw [if_neg c14] at h
          by_cases c19 : v2 = (3 : Int32)
          · rw [if_pos c19] at h
            refine g_tabIn 89 (v := (3 : Int32)) dA_of_12 c19 (by decide) (by decide) rfl (by decide) ?_
            refine g_aload_n 90 (i := 0) dA_of_89 rfl rfl rfl ?_
            obtain ⟨t20, e20, h⟩ := x_bind h
            refine g_getfR 93 0 0 dA_of_90 rfl x_in0 tw_1_115 rfl (by decide) e20 ?_
            obtain ⟨t21, e21, h⟩ := x_bind h
            refine g_getfR 96 2 0 dA_of_93 rfl x_in2 tw_1_57 rfl (by decide) e21 ?_
            refine g_iload_n 97 (i := 1) dA_of_96 rfl rfl rfl ?_
            obtain ⟨_, e22, h⟩ := x_bind h
            obtain ⟨t23, e23, h⟩ := x_bind h
            refine g_cV 100 (some (.int t23)) w [.int v1] [] dA_of_97 rfl (fun _ hK2 => mR_beforeOf (d - 1) (by omega) e23 hK2) (x_ob_some e22) kA_118 (x_rm (Nat.le_trans (by decide) hd) (by decide)) ⟨Nat.zero_le _, Nat.zero_le _⟩ (Nat.le_of_ble_eq_true rfl) rfl ?_
            obtain rfl := Option.some.inj h
            exact g_iret rfl dA_of_100 hK
          · rw [if_neg c19] at h
            by_cases c24 : v2 = (4 : Int32)
            · rw [if_pos c24] at h
              refine g_tabIn 101 (v := (4 : Int32)) dA_of_12 c24 (by decide) (by decide) rfl (by decide) ?_
              refine g_aload_n 102 (i := 0) dA_of_101 rfl rfl rfl ?_
              obtain ⟨t25, e25, h⟩ := x_bind h
              refine g_getfR 105 0 0 dA_of_102 rfl x_in0 tw_1_115 rfl (by decide) e25 ?_
              refine g_iload_n 106 (i := 1) dA_of_105 rfl rfl rfl ?_
              obtain ⟨_, e26, h⟩ := x_bind h
              obtain ⟨t27, e27, h⟩ := x_bind h
              refine g_cV 109 (some (.int t27)) w [.int v1] [] dA_of_106 rfl (fun _ hK2 => mG_clumpOf (d - 1) (by omega) e27 hK2) (x_ob_some e26) kA_121 (x_rm (Nat.le_trans (by decide) hd) (by decide)) ⟨Nat.zero_le _, Nat.zero_le _⟩ (Nat.le_of_ble_eq_true rfl) rfl ?_
              obtain rfl := Option.some.inj h
              exact g_iret rfl dA_of_109 hK
            · rw [if_neg c24] at h
              by_cases c28 : v2 = (5 : Int32)
              · rw [if_pos c28] at h
                refine g_tabIn 110 (v := (5 : Int32)) dA_of_12 c28 (by decide) (by decide) rfl (by decide) ?_
                refine g_aload_n 111 (i := 0) dA_of_110 rfl rfl rfl ?_
                obtain ⟨t29, e29, h⟩ := x_bind h
                refine g_getfR 114 0 3 dA_of_111 rfl x_in0 tw_1_118 rfl (by decide) e29 ?_
                refine g_aload_n 115 (i := 0) dA_of_114 rfl rfl rfl ?_
                obtain ⟨t30, e30, h⟩ := x_bind h
                refine g_getfR 118 0 0 dA_of_115 rfl x_in0 tw_1_115 rfl (by decide) e30 ?_
                obtain ⟨t31, e31, h⟩ := x_bind h
                refine g_getfR 121 2 0 dA_of_118 rfl x_in2 tw_1_57 rfl (by decide) e31 ?_
                obtain ⟨_, e32, h⟩ := x_bind h
                obtain ⟨w33, e33, h⟩ := x_bind h
                refine g_cV 124 none w33 [.ref t31] [] dA_of_121 rfl (fun _ hK2 => mK_find (d - 1) (by omega) e33 hK2) (x_ob_some e32) kA_96 (x_rm (Nat.le_trans (by decide) hd) (by decide)) ⟨Nat.zero_le _, Nat.zero_le _⟩ (Nat.le_of_ble_eq_true rfl) rfl ?_
                refine g_aload_n 125 (i := 0) dA_of_124 rfl rfl rfl ?_
                obtain ⟨t34, e34, h⟩ := x_bind h
                refine g_getfR 128 0 3 dA_of_125 rfl x_in0 tw_1_118 rfl (by decide) e34 ?_
                refine g_iload_n 129 (i := 1) dA_of_128 rfl rfl rfl ?_
                obtain ⟨_, e35, h⟩ := x_bind h
                obtain ⟨t36, e36, h⟩ := x_bind h
                refine g_cV 132 (some (.int t36)) w33 [.int v1] [] dA_of_129 rfl (fun _ hK2 => mK_sureFrom (d - 1) (by omega) e36 hK2) (x_ob_some e35) kA_124 (x_rm (Nat.le_trans (by decide) hd) (by decide)) ⟨Nat.zero_le _, Nat.zero_le _⟩ (Nat.le_of_ble_eq_true rfl) rfl ?_
                obtain rfl := Option.some.inj h
                exact g_iret rfl dA_of_132 hK
              · rw [if_neg c28] at h
                have q4 := lv_neT (a := 0) c4 (by decide)
                have q9 := lv_neT (a := 1) c9 (by decide)
                have q14 := lv_neT (a := 2) c14 (by decide)
                have q19 := lv_neT (a := 3) c19 (by decide)
                have q24 := lv_neT (a := 4) c24 (by decide)
                have q28 := lv_neT (a := 5) c28 (by decide)
                refine g_tabOut 133 dA_of_12 (by omega) (by decide) ?_
                refine g_bipush 135 (-2 : Int32) dA_of_133 rfl (by decide) ?_
                obtain rfl := Option.some.inj h
                exact g_iret rfl dA_of_135 hK
/-! ActSurgery.isPair(II)Z: level P -/
theorem dA_isPair_0 : decode cA_isPair 0 = .ok (.aload_n 0, 1) := by decide +kernel
theorem dA_isPair_1 : decode cA_isPair 1 = .ok (.iload_n 1, 1) := by decide +kernel
theorem dA_isPair_2 : decode cA_isPair 2 = .ok (.invokevirtual 54, 3) := by decide +kernel
theorem dA_isPair_5 : decode cA_isPair 5 = .ok (.ifCond .eq 20, 3) := by decide +kernel
theorem dA_isPair_8 : decode cA_isPair 8 = .ok (.aload_n 0, 1) := by decide +kernel
theorem dA_isPair_9 : decode cA_isPair 9 = .ok (.iload_n 2, 1) := by decide +kernel
theorem dA_isPair_10 : decode cA_isPair 10 = .ok (.invokevirtual 54, 3) := by decide +kernel
theorem dA_isPair_13 : decode cA_isPair 13 = .ok (.ifCond .eq 12, 3) := by decide +kernel
theorem dA_isPair_16 : decode cA_isPair 16 = .ok (.iload_n 1, 1) := by decide +kernel
theorem dA_isPair_17 : decode cA_isPair 17 = .ok (.iload_n 2, 1) := by decide +kernel
theorem dA_isPair_18 : decode cA_isPair 18 = .ok (.if_icmp .eq 7, 3) := by decide +kernel
theorem dA_isPair_21 : decode cA_isPair 21 = .ok (.iconst 1, 1) := by decide +kernel
theorem dA_isPair_22 : decode cA_isPair 22 = .ok (.goto 4, 3) := by decide +kernel
theorem dA_isPair_25 : decode cA_isPair 25 = .ok (.iconst 0, 1) := by decide +kernel
theorem dA_isPair_26 : decode cA_isPair 26 = .ok (.ireturn, 1) := by decide +kernel
def fA_isPair (w : x_W) (v0 : Nat) (v1 : Int32) (v2 : Int32) : Option Int32 :=
  (x_ob w v0 0).bind fun _ =>
  (fA_isPlace w v0 v1).bind fun t2 =>
  if t2 = (0 : Int32) then
    some (0 : Int32)
  else
    (fA_isPlace w v0 v2).bind fun t4 =>
    if t4 = (0 : Int32) then
      some (0 : Int32)
    else
      if v1 = v2 then
        some (0 : Int32)
      else
        some (1 : Int32)
set_option maxHeartbeats 4000000 in
set_option maxRecDepth 100000 in
theorem mA_isPair (d : Nat) (hd : 2 ≤ d) {K : Option Value → x_W → Prop} {w : x_W} {v0 : Nat} {v1 : Int32} {v2 : Int32} {r : Int32} (h : fA_isPair w v0 v1 v2 = some r) (hK : K (some (.int r)) w) : x_M yA_isPair cA_isPair 3 (some .boolean) d 0 0 [.ref v0, .int v1, .int v2] w K := by
  refine x_M.of [some (.ref v0), some (.int v1), some (.int v2)] (by decide) rfl (Nat.le_of_ble_eq_true rfl) ?_
  unfold fA_isPair at h
  refine g_aload_n 1 (i := 0) dA_isPair_0 rfl rfl rfl ?_
  refine g_iload_n 2 (i := 1) dA_isPair_1 rfl rfl rfl ?_
  obtain ⟨_, e1, h⟩ := x_bind h
  obtain ⟨t2, e2, h⟩ := x_bind h
  refine g_cV 5 (some (.int t2)) w [.int v1] [] dA_isPair_2 rfl (fun _ hK2 => mA_isPlace (d - 1) (by omega) e2 hK2) (x_ob_some e1) kA_54 (x_rm (Nat.le_trans (by decide) hd) (by decide)) ⟨Nat.zero_le _, Nat.zero_le _⟩ (Nat.le_of_ble_eq_true rfl) rfl ?_
  by_cases c3 : t2 = (0 : Int32)
  · rw [if_pos c3] at h
    refine g_if_eq_t 25 dA_isPair_5 (by decide) c3 ?_
    refine g_iconst 26 (0 : Int32) dA_isPair_25 rfl (by decide) ?_
    obtain rfl := Option.some.inj h
    exact g_zret rfl (by decide) dA_isPair_26 hK
  · rw [if_neg c3] at h
    refine g_if_eq_f 8 25 dA_isPair_5 (by decide) rfl c3 ?_
    refine g_aload_n 9 (i := 0) dA_isPair_8 rfl rfl rfl ?_
    refine g_iload_n 10 (i := 2) dA_isPair_9 rfl rfl rfl ?_
    obtain ⟨t4, e4, h⟩ := x_bind h
    refine g_cV 13 (some (.int t4)) w [.int v2] [] dA_isPair_10 rfl (fun _ hK2 => mA_isPlace (d - 1) (by omega) e4 hK2) (x_ob_some e1) kA_54 (x_rm (Nat.le_trans (by decide) hd) (by decide)) ⟨Nat.zero_le _, Nat.zero_le _⟩ (Nat.le_of_ble_eq_true rfl) rfl ?_
    by_cases c5 : t4 = (0 : Int32)
    · rw [if_pos c5] at h
      refine g_if_eq_t 25 dA_isPair_13 (by decide) c5 ?_
      refine g_iconst 26 (0 : Int32) dA_isPair_25 rfl (by decide) ?_
      obtain rfl := Option.some.inj h
      exact g_zret rfl (by decide) dA_isPair_26 hK
    · rw [if_neg c5] at h
      refine g_if_eq_f 16 25 dA_isPair_13 (by decide) rfl c5 ?_
      refine g_iload_n 17 (i := 1) dA_isPair_16 rfl rfl rfl ?_
      refine g_iload_n 18 (i := 2) dA_isPair_17 rfl rfl rfl ?_
      by_cases c6 : v1 = v2
      · rw [if_pos c6] at h
        refine g_icmp_eq_t 25 dA_isPair_18 (by decide) c6 ?_
        refine g_iconst 26 (0 : Int32) dA_isPair_25 rfl (by decide) ?_
        obtain rfl := Option.some.inj h
        exact g_zret rfl (by decide) dA_isPair_26 hK
      · rw [if_neg c6] at h
        refine g_icmp_eq_f 21 25 dA_isPair_18 (by decide) rfl c6 ?_
        refine g_iconst 22 (1 : Int32) dA_isPair_21 rfl (by decide) ?_
        refine g_goto 26 dA_isPair_22 (by decide) ?_
        obtain rfl := Option.some.inj h
        exact g_zret rfl (by decide) dA_isPair_26 hK
/-! ActSurgery.isAskOfWays(III)Z: level P -/
theorem dA_isAskOfWays_0 : decode cA_isAskOfWays 0 = .ok (.aload_n 0, 1) := by decide +kernel
theorem dA_isAskOfWays_1 : decode cA_isAskOfWays 1 = .ok (.iload_n 1, 1) := by decide +kernel
theorem dA_isAskOfWays_2 : decode cA_isAskOfWays 2 = .ok (.iload_n 2, 1) := by decide +kernel
theorem dA_isAskOfWays_3 : decode cA_isAskOfWays 3 = .ok (.invokevirtual 134, 3) := by decide +kernel
theorem dA_isAskOfWays_6 : decode cA_isAskOfWays 6 = .ok (.ifCond .eq 30, 3) := by decide +kernel
theorem dA_isAskOfWays_9 : decode cA_isAskOfWays 9 = .ok (.iload_n 3, 1) := by decide +kernel
theorem dA_isAskOfWays_10 : decode cA_isAskOfWays 10 = .ok (.aload_n 0, 1) := by decide +kernel
theorem dA_isAskOfWays_11 : decode cA_isAskOfWays 11 = .ok (.invokevirtual 185, 3) := by decide +kernel
theorem dA_isAskOfWays_14 : decode cA_isAskOfWays 14 = .ok (.iconst 1, 1) := by decide +kernel
theorem dA_isAskOfWays_15 : decode cA_isAskOfWays 15 = .ok (.iload_n 1, 1) := by decide +kernel
theorem dA_isAskOfWays_16 : decode cA_isAskOfWays 16 = .ok (.ishl, 1) := by decide +kernel
theorem dA_isAskOfWays_17 : decode cA_isAskOfWays 17 = .ok (.iconst (-1), 1) := by decide +kernel
theorem dA_isAskOfWays_18 : decode cA_isAskOfWays 18 = .ok (.ixor, 1) := by decide +kernel
theorem dA_isAskOfWays_19 : decode cA_isAskOfWays 19 = .ok (.iand, 1) := by decide +kernel
theorem dA_isAskOfWays_20 : decode cA_isAskOfWays 20 = .ok (.iconst 1, 1) := by decide +kernel
theorem dA_isAskOfWays_21 : decode cA_isAskOfWays 21 = .ok (.iload_n 2, 1) := by decide +kernel
theorem dA_isAskOfWays_22 : decode cA_isAskOfWays 22 = .ok (.ishl, 1) := by decide +kernel
theorem dA_isAskOfWays_23 : decode cA_isAskOfWays 23 = .ok (.iconst (-1), 1) := by decide +kernel
theorem dA_isAskOfWays_24 : decode cA_isAskOfWays 24 = .ok (.ixor, 1) := by decide +kernel
theorem dA_isAskOfWays_25 : decode cA_isAskOfWays 25 = .ok (.iand, 1) := by decide +kernel
theorem dA_isAskOfWays_26 : decode cA_isAskOfWays 26 = .ok (.invokestatic 62, 3) := by decide +kernel
theorem dA_isAskOfWays_29 : decode cA_isAskOfWays 29 = .ok (.ifCond .eq 7, 3) := by decide +kernel
theorem dA_isAskOfWays_32 : decode cA_isAskOfWays 32 = .ok (.iconst 1, 1) := by decide +kernel
theorem dA_isAskOfWays_33 : decode cA_isAskOfWays 33 = .ok (.goto 4, 3) := by decide +kernel
theorem dA_isAskOfWays_36 : decode cA_isAskOfWays 36 = .ok (.iconst 0, 1) := by decide +kernel
theorem dA_isAskOfWays_37 : decode cA_isAskOfWays 37 = .ok (.ireturn, 1) := by decide +kernel
theorem tw_2_64 : (Jvm.Cond.instanceMethod ({ cls := "ActSurgery", name := "isPair", desc := "(II)Z" } : Jvm.MethodName)) ∈ x_GT := x_t2 64 rfl rfl
theorem tws_14 : (Jvm.Cond.selects "ActSurgery" ({ cls := "ActSurgery", name := "isPair", desc := "(II)Z" } : Jvm.MethodName) ({ cls := "ActSurgery", name := "isPair", desc := "(II)Z" } : Jvm.MethodName)) ∈ x_GT := x_ts 14 rfl rfl
theorem tw_2_65 : (Jvm.Cond.code ({ cls := "ActSurgery", name := "isPair", desc := "(II)Z" } : Jvm.MethodName) prog_1_method_23_code (3 : Nat) (Option.some Jvm.ClassFile.FieldType.boolean)) ∈ x_GT := x_t2 65 rfl rfl
theorem tw_2_62 : (Jvm.Cond.methodLink "ActSurgery" (134 : Nat) ({ cls := "ActSurgery", name := "isPair", desc := "(II)Z" } : Jvm.MethodName)) ∈ x_GT := x_t2 62 rfl rfl
theorem kA_134 : x_kV "ActSurgery" 134 yA_isPair cA_isPair 3 (some .boolean) 2 0 := ⟨tw_2_64, tws_14, tw_2_65, tw_1_1, tw_2_62, (by decide +kernel), rfl⟩
def fA_isAskOfWays (w : x_W) (v0 : Nat) (v1 : Int32) (v2 : Int32) (v3 : Int32) : Option Int32 :=
  (x_ob w v0 0).bind fun _ =>
  (fA_isPair w v0 v1 v2).bind fun t2 =>
  if t2 = (0 : Int32) then
    some (0 : Int32)
  else
    (fA_allPlaces w v0).bind fun t4 =>
    if (fA_isWithin v3 ((t4 &&& (((1 : Int32) <<< (v1 &&& 31)) ^^^ (-1 : Int32))) &&& (((1 : Int32) <<< (v2 &&& 31)) ^^^ (-1 : Int32)))) = (0 : Int32) then
      some (0 : Int32)
    else
      some (1 : Int32)
set_option maxHeartbeats 4000000 in
set_option maxRecDepth 100000 in
theorem mA_isAskOfWays (d : Nat) (hd : 3 ≤ d) {K : Option Value → x_W → Prop} {w : x_W} {v0 : Nat} {v1 : Int32} {v2 : Int32} {v3 : Int32} {r : Int32} (h : fA_isAskOfWays w v0 v1 v2 v3 = some r) (hK : K (some (.int r)) w) : x_M yA_isAskOfWays cA_isAskOfWays 4 (some .boolean) d 0 0 [.ref v0, .int v1, .int v2, .int v3] w K := by
  refine x_M.of [some (.ref v0), some (.int v1), some (.int v2), some (.int v3)] (by decide) rfl (Nat.le_of_ble_eq_true rfl) ?_
  unfold fA_isAskOfWays at h
  refine g_aload_n 1 (i := 0) dA_isAskOfWays_0 rfl rfl rfl ?_
  refine g_iload_n 2 (i := 1) dA_isAskOfWays_1 rfl rfl rfl ?_
  refine g_iload_n 3 (i := 2) dA_isAskOfWays_2 rfl rfl rfl ?_
  obtain ⟨_, e1, h⟩ := x_bind h
  obtain ⟨t2, e2, h⟩ := x_bind h
  refine g_cV 6 (some (.int t2)) w [.int v1, .int v2] [] dA_isAskOfWays_3 rfl (fun _ hK2 => mA_isPair (d - 1) (by omega) e2 hK2) (x_ob_some e1) kA_134 (x_rm (Nat.le_trans (by decide) hd) (by decide)) ⟨Nat.zero_le _, Nat.zero_le _⟩ (Nat.le_of_ble_eq_true rfl) rfl ?_
  by_cases c3 : t2 = (0 : Int32)
  · rw [if_pos c3] at h
    refine g_if_eq_t 36 dA_isAskOfWays_6 (by decide) c3 ?_
    refine g_iconst 37 (0 : Int32) dA_isAskOfWays_36 rfl (by decide) ?_
    obtain rfl := Option.some.inj h
    exact g_zret rfl (by decide) dA_isAskOfWays_37 hK
  · rw [if_neg c3] at h
    refine g_if_eq_f 9 36 dA_isAskOfWays_6 (by decide) rfl c3 ?_
    refine g_iload_n 10 (i := 3) dA_isAskOfWays_9 rfl rfl rfl ?_
    refine g_aload_n 11 (i := 0) dA_isAskOfWays_10 rfl rfl rfl ?_
    obtain ⟨t4, e4, h⟩ := x_bind h
    refine g_cV 14 (some (.int t4)) w [] [.int v3] dA_isAskOfWays_11 rfl (fun _ hK2 => mA_allPlaces (d - 1) (by omega) e4 hK2) (x_ob_some e1) kA_185 (x_rm (Nat.le_trans (by decide) hd) (by decide)) ⟨Nat.zero_le _, Nat.zero_le _⟩ (Nat.le_of_ble_eq_true rfl) rfl ?_
    refine g_iconst 15 (1 : Int32) dA_isAskOfWays_14 rfl (by decide) ?_
    refine g_iload_n 16 (i := 1) dA_isAskOfWays_15 rfl rfl rfl ?_
    refine g_ishl 17 dA_isAskOfWays_16 rfl ?_
    refine g_iconst 18 (-1 : Int32) dA_isAskOfWays_17 rfl (by decide) ?_
    refine g_ixor 19 dA_isAskOfWays_18 rfl ?_
    refine g_iand 20 dA_isAskOfWays_19 rfl ?_
    refine g_iconst 21 (1 : Int32) dA_isAskOfWays_20 rfl (by decide) ?_
    refine g_iload_n 22 (i := 2) dA_isAskOfWays_21 rfl rfl rfl ?_
    refine g_ishl 23 dA_isAskOfWays_22 rfl ?_
    refine g_iconst 24 (-1 : Int32) dA_isAskOfWays_23 rfl (by decide) ?_
    refine g_ixor 25 dA_isAskOfWays_24 rfl ?_
    refine g_iand 26 dA_isAskOfWays_25 rfl ?_
    refine g_cS 29 (some (.int (fA_isWithin v3 ((t4 &&& (((1 : Int32) <<< (v1 &&& 31)) ^^^ (-1 : Int32))) &&& (((1 : Int32) <<< (v2 &&& 31)) ^^^ (-1 : Int32)))))) w [.int v3, .int ((t4 &&& (((1 : Int32) <<< (v1 &&& 31)) ^^^ (-1 : Int32))) &&& (((1 : Int32) <<< (v2 &&& 31)) ^^^ (-1 : Int32)))] [] dA_isAskOfWays_26 rfl (fun _ hK2 => mA_isWithin (d - 1) (by omega) rfl hK2) kA_62 (x_rm (Nat.le_trans (by decide) hd) (by decide)) ⟨Nat.zero_le _, Nat.zero_le _⟩ (Nat.le_of_ble_eq_true rfl) rfl ?_
    by_cases c5 : (fA_isWithin v3 ((t4 &&& (((1 : Int32) <<< (v1 &&& 31)) ^^^ (-1 : Int32))) &&& (((1 : Int32) <<< (v2 &&& 31)) ^^^ (-1 : Int32)))) = (0 : Int32)
    · rw [if_pos c5] at h
      refine g_if_eq_t 36 dA_isAskOfWays_29 (by decide) c5 ?_
      refine g_iconst 37 (0 : Int32) dA_isAskOfWays_36 rfl (by decide) ?_
      obtain rfl := Option.some.inj h
      exact g_zret rfl (by decide) dA_isAskOfWays_37 hK
    · rw [if_neg c5] at h
      refine g_if_eq_f 32 36 dA_isAskOfWays_29 (by decide) rfl c5 ?_
      refine g_iconst 33 (1 : Int32) dA_isAskOfWays_32 rfl (by decide) ?_
      refine g_goto 37 dA_isAskOfWays_33 (by decide) ?_
      obtain rfl := Option.some.inj h
      exact g_zret rfl (by decide) dA_isAskOfWays_37 hK
/-! ActSurgery.parted(III)I: level P -/
theorem dA_parted_0 : decode cA_parted 0 = .ok (.aload_n 0, 1) := by decide +kernel
theorem dA_parted_1 : decode cA_parted 1 = .ok (.iload_n 1, 1) := by decide +kernel
theorem dA_parted_2 : decode cA_parted 2 = .ok (.iload_n 2, 1) := by decide +kernel
theorem dA_parted_3 : decode cA_parted 3 = .ok (.iload_n 3, 1) := by decide +kernel
theorem dA_parted_4 : decode cA_parted 4 = .ok (.invokevirtual 127, 3) := by decide +kernel
theorem dA_parted_7 : decode cA_parted 7 = .ok (.ifCond .ne 6, 3) := by decide +kernel
theorem dA_parted_10 : decode cA_parted 10 = .ok (.bipush (-2), 2) := by decide +kernel
theorem dA_parted_12 : decode cA_parted 12 = .ok (.ireturn, 1) := by decide +kernel
theorem dA_parted_13 : decode cA_parted 13 = .ok (.aload_n 0, 1) := by decide +kernel
theorem dA_parted_14 : decode cA_parted 14 = .ok (.getfield 10, 3) := by decide +kernel
theorem dA_parted_17 : decode cA_parted 17 = .ok (.getfield 43, 3) := by decide +kernel
theorem dA_parted_20 : decode cA_parted 20 = .ok (.iload_n 1, 1) := by decide +kernel
theorem dA_parted_21 : decode cA_parted 21 = .ok (.iload_n 2, 1) := by decide +kernel
theorem dA_parted_22 : decode cA_parted 22 = .ok (.iload_n 3, 1) := by decide +kernel
theorem dA_parted_23 : decode cA_parted 23 = .ok (.invokevirtual 131, 3) := by decide +kernel
theorem dA_parted_26 : decode cA_parted 26 = .ok (.invokestatic 88, 3) := by decide +kernel
theorem dA_parted_29 : decode cA_parted 29 = .ok (.ireturn, 1) := by decide +kernel
theorem tw_2_60 : (Jvm.Cond.instanceMethod ({ cls := "ActSurgery", name := "isAskOfWays", desc := "(III)Z" } : Jvm.MethodName)) ∈ x_GT := x_t2 60 rfl rfl
theorem tws_13 : (Jvm.Cond.selects "ActSurgery" ({ cls := "ActSurgery", name := "isAskOfWays", desc := "(III)Z" } : Jvm.MethodName) ({ cls := "ActSurgery", name := "isAskOfWays", desc := "(III)Z" } : Jvm.MethodName)) ∈ x_GT := x_ts 13 rfl rfl
theorem tw_2_61 : (Jvm.Cond.code ({ cls := "ActSurgery", name := "isAskOfWays", desc := "(III)Z" } : Jvm.MethodName) prog_1_method_26_code (4 : Nat) (Option.some Jvm.ClassFile.FieldType.boolean)) ∈ x_GT := x_t2 61 rfl rfl
theorem tw_2_58 : (Jvm.Cond.methodLink "ActSurgery" (127 : Nat) ({ cls := "ActSurgery", name := "isAskOfWays", desc := "(III)Z" } : Jvm.MethodName)) ∈ x_GT := x_t2 58 rfl rfl
theorem kA_127 : x_kV "ActSurgery" 127 yA_isAskOfWays cA_isAskOfWays 4 (some .boolean) 3 0 := ⟨tw_2_60, tws_13, tw_2_61, tw_1_1, tw_2_58, (by decide +kernel), rfl⟩
def fA_parted (w : x_W) (v0 : Nat) (v1 : Int32) (v2 : Int32) (v3 : Int32) : Option Int32 :=
  (x_ob w v0 0).bind fun _ =>
  (fA_isAskOfWays w v0 v1 v2 v3).bind fun t2 =>
  if t2 = (0 : Int32) then
    some (-2 : Int32)
  else
    (x_fr w v0 0 0).bind fun t4 =>
    (x_fr w t4 2 0).bind fun t5 =>
    (x_ob w t5 1).bind fun _ =>
    (fR_isParted w t5 v1 v2 v3).bind fun t7 =>
    some (fA_asNumber t7)
set_option maxHeartbeats 4000000 in
set_option maxRecDepth 100000 in
theorem mA_parted (d : Nat) (hd : 13 ≤ d) {K : Option Value → x_W → Prop} {w : x_W} {v0 : Nat} {v1 : Int32} {v2 : Int32} {v3 : Int32} {r : Int32} (h : fA_parted w v0 v1 v2 v3 = some r) (hK : K (some (.int r)) w) : x_M yA_parted cA_parted 4 (some .int) d 0 0 [.ref v0, .int v1, .int v2, .int v3] w K := by
  refine x_M.of [some (.ref v0), some (.int v1), some (.int v2), some (.int v3)] (by decide) rfl (Nat.le_of_ble_eq_true rfl) ?_
  unfold fA_parted at h
  refine g_aload_n 1 (i := 0) dA_parted_0 rfl rfl rfl ?_
  refine g_iload_n 2 (i := 1) dA_parted_1 rfl rfl rfl ?_
  refine g_iload_n 3 (i := 2) dA_parted_2 rfl rfl rfl ?_
  refine g_iload_n 4 (i := 3) dA_parted_3 rfl rfl rfl ?_
  obtain ⟨_, e1, h⟩ := x_bind h
  obtain ⟨t2, e2, h⟩ := x_bind h
  refine g_cV 7 (some (.int t2)) w [.int v1, .int v2, .int v3] [] dA_parted_4 rfl (fun _ hK2 => mA_isAskOfWays (d - 1) (by omega) e2 hK2) (x_ob_some e1) kA_127 (x_rm (Nat.le_trans (by decide) hd) (by decide)) ⟨Nat.zero_le _, Nat.zero_le _⟩ (Nat.le_of_ble_eq_true rfl) rfl ?_
  by_cases c3 : t2 = (0 : Int32)
  · rw [if_pos c3] at h
    refine g_if_ne_f 10 13 dA_parted_7 (by decide) rfl c3 ?_
    refine g_bipush 12 (-2 : Int32) dA_parted_10 rfl (by decide) ?_
    obtain rfl := Option.some.inj h
    exact g_iret rfl dA_parted_12 hK
  · rw [if_neg c3] at h
    refine g_if_ne_t 13 dA_parted_7 (by decide) c3 ?_
    refine g_aload_n 14 (i := 0) dA_parted_13 rfl rfl rfl ?_
    obtain ⟨t4, e4, h⟩ := x_bind h
    refine g_getfR 17 0 0 dA_parted_14 rfl x_in0 tw_1_115 rfl (by decide) e4 ?_
    obtain ⟨t5, e5, h⟩ := x_bind h
    refine g_getfR 20 2 0 dA_parted_17 rfl x_in2 tw_1_57 rfl (by decide) e5 ?_
    refine g_iload_n 21 (i := 1) dA_parted_20 rfl rfl rfl ?_
    refine g_iload_n 22 (i := 2) dA_parted_21 rfl rfl rfl ?_
    refine g_iload_n 23 (i := 3) dA_parted_22 rfl rfl rfl ?_
    obtain ⟨_, e6, h⟩ := x_bind h
    obtain ⟨t7, e7, h⟩ := x_bind h
    refine g_cV 26 (some (.int t7)) w [.int v1, .int v2, .int v3] [] dA_parted_23 rfl (fun _ hK2 => mR_isParted (d - 1) (by omega) e7 hK2) (x_ob_some e6) kA_131 (x_rm (Nat.le_trans (by decide) hd) (by decide)) ⟨Nat.zero_le _, Nat.zero_le _⟩ (Nat.le_of_ble_eq_true rfl) rfl ?_
    refine g_cS 29 (some (.int (fA_asNumber t7))) w [.int t7] [] dA_parted_26 rfl (fun _ hK2 => mA_asNumber (d - 1) (by omega) rfl hK2) kA_88 (x_rm (Nat.le_trans (by decide) hd) (by decide)) ⟨Nat.zero_le _, Nat.zero_le _⟩ (Nat.le_of_ble_eq_true rfl) rfl ?_
    obtain rfl := Option.some.inj h
    exact g_iret rfl dA_parted_29 hK
/-! ActSurgery.parting(II)I: level P -/
theorem dA_parting_0 : decode cA_parting 0 = .ok (.aload_n 0, 1) := by decide +kernel
theorem dA_parting_1 : decode cA_parting 1 = .ok (.iload_n 1, 1) := by decide +kernel
theorem dA_parting_2 : decode cA_parting 2 = .ok (.iload_n 2, 1) := by decide +kernel
theorem dA_parting_3 : decode cA_parting 3 = .ok (.invokevirtual 134, 3) := by decide +kernel
theorem dA_parting_6 : decode cA_parting 6 = .ok (.ifCond .ne 6, 3) := by decide +kernel
theorem dA_parting_9 : decode cA_parting 9 = .ok (.bipush (-2), 2) := by decide +kernel
theorem dA_parting_11 : decode cA_parting 11 = .ok (.ireturn, 1) := by decide +kernel
theorem dA_parting_12 : decode cA_parting 12 = .ok (.aload_n 0, 1) := by decide +kernel
theorem dA_parting_13 : decode cA_parting 13 = .ok (.iload_n 1, 1) := by decide +kernel
theorem dA_parting_14 : decode cA_parting 14 = .ok (.iload_n 2, 1) := by decide +kernel
theorem dA_parting_15 : decode cA_parting 15 = .ok (.invokevirtual 137, 3) := by decide +kernel
theorem dA_parting_18 : decode cA_parting 18 = .ok (.ireturn, 1) := by decide +kernel
def fA_parting (w : x_W) (v0 : Nat) (v1 : Int32) (v2 : Int32) : Option Int32 :=
  (x_ob w v0 0).bind fun _ =>
  (fA_isPair w v0 v1 v2).bind fun t2 =>
  if t2 = (0 : Int32) then
    some (-2 : Int32)
  else
    (fA_leastParting w v0 v1 v2).bind fun t4 =>
    some t4
set_option maxHeartbeats 4000000 in
set_option maxRecDepth 100000 in
theorem mA_parting (d : Nat) (hd : 14 ≤ d) {K : Option Value → x_W → Prop} {w : x_W} {v0 : Nat} {v1 : Int32} {v2 : Int32} {r : Int32} (h : fA_parting w v0 v1 v2 = some r) (hK : K (some (.int r)) w) : x_M yA_parting cA_parting 3 (some .int) d 0 0 [.ref v0, .int v1, .int v2] w K := by
  refine x_M.of [some (.ref v0), some (.int v1), some (.int v2)] (by decide) rfl (Nat.le_of_ble_eq_true rfl) ?_
  unfold fA_parting at h
  refine g_aload_n 1 (i := 0) dA_parting_0 rfl rfl rfl ?_
  refine g_iload_n 2 (i := 1) dA_parting_1 rfl rfl rfl ?_
  refine g_iload_n 3 (i := 2) dA_parting_2 rfl rfl rfl ?_
  obtain ⟨_, e1, h⟩ := x_bind h
  obtain ⟨t2, e2, h⟩ := x_bind h
  refine g_cV 6 (some (.int t2)) w [.int v1, .int v2] [] dA_parting_3 rfl (fun _ hK2 => mA_isPair (d - 1) (by omega) e2 hK2) (x_ob_some e1) kA_134 (x_rm (Nat.le_trans (by decide) hd) (by decide)) ⟨Nat.zero_le _, Nat.zero_le _⟩ (Nat.le_of_ble_eq_true rfl) rfl ?_
  by_cases c3 : t2 = (0 : Int32)
  · rw [if_pos c3] at h
    refine g_if_ne_f 9 12 dA_parting_6 (by decide) rfl c3 ?_
    refine g_bipush 11 (-2 : Int32) dA_parting_9 rfl (by decide) ?_
    obtain rfl := Option.some.inj h
    exact g_iret rfl dA_parting_11 hK
  · rw [if_neg c3] at h
    refine g_if_ne_t 12 dA_parting_6 (by decide) c3 ?_
    refine g_aload_n 13 (i := 0) dA_parting_12 rfl rfl rfl ?_
    refine g_iload_n 14 (i := 1) dA_parting_13 rfl rfl rfl ?_
    refine g_iload_n 15 (i := 2) dA_parting_14 rfl rfl rfl ?_
    obtain ⟨t4, e4, h⟩ := x_bind h
    refine g_cV 18 (some (.int t4)) w [.int v1, .int v2] [] dA_parting_15 rfl (fun _ hK2 => mA_leastParting (d - 1) (by omega) e4 hK2) (x_ob_some e1) kA_137 (x_rm (Nat.le_trans (by decide) hd) (by decide)) ⟨Nat.zero_le _, Nat.zero_le _⟩ (Nat.le_of_ble_eq_true rfl) rfl ?_
    obtain rfl := Option.some.inj h
    exact g_iret rfl dA_parting_18 hK
/-! ActSurgery$Arrows.openWays(III)I: level P -/
theorem dR_openWays_0 : decode cR_openWays 0 = .ok (.aload_n 0, 1) := by decide +kernel
theorem dR_openWays_1 : decode cR_openWays 1 = .ok (.iconst (-1), 1) := by decide +kernel
theorem dR_openWays_2 : decode cR_openWays 2 = .ok (.iload_n 1, 1) := by decide +kernel
theorem dR_openWays_3 : decode cR_openWays 3 = .ok (.iload_n 2, 1) := by decide +kernel
theorem dR_openWays_4 : decode cR_openWays 4 = .ok (.iconst 1, 1) := by decide +kernel
theorem dR_openWays_5 : decode cR_openWays 5 = .ok (.iload_n 1, 1) := by decide +kernel
theorem dR_openWays_6 : decode cR_openWays 6 = .ok (.ishl, 1) := by decide +kernel
theorem dR_openWays_7 : decode cR_openWays 7 = .ok (.iload_n 3, 1) := by decide +kernel
theorem dR_openWays_8 : decode cR_openWays 8 = .ok (.iconst 0, 1) := by decide +kernel
theorem dR_openWays_9 : decode cR_openWays 9 = .ok (.invokevirtual 32, 3) := by decide +kernel
theorem dR_openWays_12 : decode cR_openWays 12 = .ok (.ireturn, 1) := by decide +kernel
def fR_openWays (w : x_W) (v0 : Nat) (v1 : Int32) (v2 : Int32) (v3 : Int32) : Option Int32 :=
  (x_ob w v0 1).bind fun _ =>
  (fR_openWaysOn w 8 v0 (-1 : Int32) v1 v2 ((1 : Int32) <<< (v1 &&& 31)) v3 (0 : Int32)).bind fun t2 =>
  some t2
set_option maxHeartbeats 4000000 in
set_option maxRecDepth 100000 in
theorem mR_openWays (d : Nat) (hd : 12 ≤ d) {K : Option Value → x_W → Prop} {w : x_W} {v0 : Nat} {v1 : Int32} {v2 : Int32} {v3 : Int32} {r : Int32} (h : fR_openWays w v0 v1 v2 v3 = some r) (hK : K (some (.int r)) w) : x_M yR_openWays cR_openWays 4 (some .int) d 0 0 [.ref v0, .int v1, .int v2, .int v3] w K := by
  refine x_M.of [some (.ref v0), some (.int v1), some (.int v2), some (.int v3)] (by decide) rfl (Nat.le_of_ble_eq_true rfl) ?_
  unfold fR_openWays at h
  refine g_aload_n 1 (i := 0) dR_openWays_0 rfl rfl rfl ?_
  refine g_iconst 2 (-1 : Int32) dR_openWays_1 rfl (by decide) ?_
  refine g_iload_n 3 (i := 1) dR_openWays_2 rfl rfl rfl ?_
  refine g_iload_n 4 (i := 2) dR_openWays_3 rfl rfl rfl ?_
  refine g_iconst 5 (1 : Int32) dR_openWays_4 rfl (by decide) ?_
  refine g_iload_n 6 (i := 1) dR_openWays_5 rfl rfl rfl ?_
  refine g_ishl 7 dR_openWays_6 rfl ?_
  refine g_iload_n 8 (i := 3) dR_openWays_7 rfl rfl rfl ?_
  refine g_iconst 9 (0 : Int32) dR_openWays_8 rfl (by decide) ?_
  obtain ⟨_, e1, h⟩ := x_bind h
  obtain ⟨t2, e2, h⟩ := x_bind h
  refine g_cV 12 (some (.int t2)) w [.int (-1 : Int32), .int v1, .int v2, .int ((1 : Int32) <<< (v1 &&& 31)), .int v3, .int (0 : Int32)] [] dR_openWays_9 rfl (fun _ hK2 => mR_openWaysOn 8 (d - 1) (by omega) _ _ _ _ _ _ _ _ _ _ e2 hK2) (x_ob_some e1) kR_32 (x_rm (Nat.le_trans (by decide) hd) (by decide)) ⟨Nat.zero_le _, Nat.zero_le _⟩ (Nat.le_of_ble_eq_true rfl) rfl ?_
  obtain rfl := Option.some.inj h
  exact g_iret rfl dR_openWays_12 hK
/-! ActSurgery.ways(III)I: level P -/
theorem dA_ways_0 : decode cA_ways 0 = .ok (.aload_n 0, 1) := by decide +kernel
theorem dA_ways_1 : decode cA_ways 1 = .ok (.iload_n 1, 1) := by decide +kernel
theorem dA_ways_2 : decode cA_ways 2 = .ok (.iload_n 2, 1) := by decide +kernel
theorem dA_ways_3 : decode cA_ways 3 = .ok (.iload_n 3, 1) := by decide +kernel
theorem dA_ways_4 : decode cA_ways 4 = .ok (.invokevirtual 127, 3) := by decide +kernel
theorem dA_ways_7 : decode cA_ways 7 = .ok (.ifCond .ne 6, 3) := by decide +kernel
theorem dA_ways_10 : decode cA_ways 10 = .ok (.bipush (-2), 2) := by decide +kernel
theorem dA_ways_12 : decode cA_ways 12 = .ok (.ireturn, 1) := by decide +kernel
theorem dA_ways_13 : decode cA_ways 13 = .ok (.aload_n 0, 1) := by decide +kernel
theorem dA_ways_14 : decode cA_ways 14 = .ok (.getfield 10, 3) := by decide +kernel
theorem dA_ways_17 : decode cA_ways 17 = .ok (.getfield 43, 3) := by decide +kernel
theorem dA_ways_20 : decode cA_ways 20 = .ok (.iload_n 1, 1) := by decide +kernel
theorem dA_ways_21 : decode cA_ways 21 = .ok (.iload_n 2, 1) := by decide +kernel
theorem dA_ways_22 : decode cA_ways 22 = .ok (.iload_n 3, 1) := by decide +kernel
theorem dA_ways_23 : decode cA_ways 23 = .ok (.invokevirtual 140, 3) := by decide +kernel
theorem dA_ways_26 : decode cA_ways 26 = .ok (.ireturn, 1) := by decide +kernel
theorem tw_2_75 : (Jvm.Cond.instanceMethod ({ cls := "ActSurgery$Arrows", name := "openWays", desc := "(III)I" } : Jvm.MethodName)) ∈ x_GT := x_t2 75 rfl rfl
theorem tw_2_76 : (Jvm.Cond.selects "ActSurgery$Arrows" ({ cls := "ActSurgery$Arrows", name := "openWays", desc := "(III)I" } : Jvm.MethodName) ({ cls := "ActSurgery$Arrows", name := "openWays", desc := "(III)I" } : Jvm.MethodName)) ∈ x_GT := x_t2 76 rfl rfl
theorem tw_2_77 : (Jvm.Cond.code ({ cls := "ActSurgery$Arrows", name := "openWays", desc := "(III)I" } : Jvm.MethodName) prog_2_method_10_code (4 : Nat) (Option.some Jvm.ClassFile.FieldType.int)) ∈ x_GT := x_t2 77 rfl rfl
theorem tw_2_74 : (Jvm.Cond.methodLink "ActSurgery" (140 : Nat) ({ cls := "ActSurgery$Arrows", name := "openWays", desc := "(III)I" } : Jvm.MethodName)) ∈ x_GT := x_t2 74 rfl rfl
theorem kA_140 : x_kV "ActSurgery" 140 yR_openWays cR_openWays 4 (some .int) 3 1 := ⟨tw_2_75, tw_2_76, tw_2_77, tw_1_3, tw_2_74, (by decide +kernel), rfl⟩
def fA_ways (w : x_W) (v0 : Nat) (v1 : Int32) (v2 : Int32) (v3 : Int32) : Option Int32 :=
  (x_ob w v0 0).bind fun _ =>
  (fA_isAskOfWays w v0 v1 v2 v3).bind fun t2 =>
  if t2 = (0 : Int32) then
    some (-2 : Int32)
  else
    (x_fr w v0 0 0).bind fun t4 =>
    (x_fr w t4 2 0).bind fun t5 =>
    (x_ob w t5 1).bind fun _ =>
    (fR_openWays w t5 v1 v2 v3).bind fun t7 =>
    some t7
set_option maxHeartbeats 4000000 in
set_option maxRecDepth 100000 in
theorem mA_ways (d : Nat) (hd : 13 ≤ d) {K : Option Value → x_W → Prop} {w : x_W} {v0 : Nat} {v1 : Int32} {v2 : Int32} {v3 : Int32} {r : Int32} (h : fA_ways w v0 v1 v2 v3 = some r) (hK : K (some (.int r)) w) : x_M yA_ways cA_ways 4 (some .int) d 0 0 [.ref v0, .int v1, .int v2, .int v3] w K := by
  refine x_M.of [some (.ref v0), some (.int v1), some (.int v2), some (.int v3)] (by decide) rfl (Nat.le_of_ble_eq_true rfl) ?_
  unfold fA_ways at h
  refine g_aload_n 1 (i := 0) dA_ways_0 rfl rfl rfl ?_
  refine g_iload_n 2 (i := 1) dA_ways_1 rfl rfl rfl ?_
  refine g_iload_n 3 (i := 2) dA_ways_2 rfl rfl rfl ?_
  refine g_iload_n 4 (i := 3) dA_ways_3 rfl rfl rfl ?_
  obtain ⟨_, e1, h⟩ := x_bind h
  obtain ⟨t2, e2, h⟩ := x_bind h
  refine g_cV 7 (some (.int t2)) w [.int v1, .int v2, .int v3] [] dA_ways_4 rfl (fun _ hK2 => mA_isAskOfWays (d - 1) (by omega) e2 hK2) (x_ob_some e1) kA_127 (x_rm (Nat.le_trans (by decide) hd) (by decide)) ⟨Nat.zero_le _, Nat.zero_le _⟩ (Nat.le_of_ble_eq_true rfl) rfl ?_
  by_cases c3 : t2 = (0 : Int32)
  · rw [if_pos c3] at h
    refine g_if_ne_f 10 13 dA_ways_7 (by decide) rfl c3 ?_
    refine g_bipush 12 (-2 : Int32) dA_ways_10 rfl (by decide) ?_
    obtain rfl := Option.some.inj h
    exact g_iret rfl dA_ways_12 hK
  · rw [if_neg c3] at h
    refine g_if_ne_t 13 dA_ways_7 (by decide) c3 ?_
    refine g_aload_n 14 (i := 0) dA_ways_13 rfl rfl rfl ?_
    obtain ⟨t4, e4, h⟩ := x_bind h
    refine g_getfR 17 0 0 dA_ways_14 rfl x_in0 tw_1_115 rfl (by decide) e4 ?_
    obtain ⟨t5, e5, h⟩ := x_bind h
    refine g_getfR 20 2 0 dA_ways_17 rfl x_in2 tw_1_57 rfl (by decide) e5 ?_
    refine g_iload_n 21 (i := 1) dA_ways_20 rfl rfl rfl ?_
    refine g_iload_n 22 (i := 2) dA_ways_21 rfl rfl rfl ?_
    refine g_iload_n 23 (i := 3) dA_ways_22 rfl rfl rfl ?_
    obtain ⟨_, e6, h⟩ := x_bind h
    obtain ⟨t7, e7, h⟩ := x_bind h
    refine g_cV 26 (some (.int t7)) w [.int v1, .int v2, .int v3] [] dA_ways_23 rfl (fun _ hK2 => mR_openWays (d - 1) (by omega) e7 hK2) (x_ob_some e6) kA_140 (x_rm (Nat.le_trans (by decide) hd) (by decide)) ⟨Nat.zero_le _, Nat.zero_le _⟩ (Nat.le_of_ble_eq_true rfl) rfl ?_
    obtain rfl := Option.some.inj h
    exact g_iret rfl dA_ways_26 hK
/-! ActSurgery.isAskOfTelling(III)Z: level P -/
theorem dA_isAskOfTelling_0 : decode cA_isAskOfTelling 0 = .ok (.iload_n 1, 1) := by decide +kernel
theorem dA_isAskOfTelling_1 : decode cA_isAskOfTelling 1 = .ok (.ifCond .lt 49, 3) := by decide +kernel
theorem dA_isAskOfTelling_4 : decode cA_isAskOfTelling 4 = .ok (.iload_n 1, 1) := by decide +kernel
theorem dA_isAskOfTelling_5 : decode cA_isAskOfTelling 5 = .ok (.iconst 2, 1) := by decide +kernel
theorem dA_isAskOfTelling_6 : decode cA_isAskOfTelling 6 = .ok (.if_icmp .gt 44, 3) := by decide +kernel
theorem dA_isAskOfTelling_9 : decode cA_isAskOfTelling 9 = .ok (.aload_n 0, 1) := by decide +kernel
theorem dA_isAskOfTelling_10 : decode cA_isAskOfTelling 10 = .ok (.iload_n 2, 1) := by decide +kernel
theorem dA_isAskOfTelling_11 : decode cA_isAskOfTelling 11 = .ok (.iload_n 3, 1) := by decide +kernel
theorem dA_isAskOfTelling_12 : decode cA_isAskOfTelling 12 = .ok (.invokevirtual 134, 3) := by decide +kernel
theorem dA_isAskOfTelling_15 : decode cA_isAskOfTelling 15 = .ok (.ifCond .eq 35, 3) := by decide +kernel
theorem dA_isAskOfTelling_18 : decode cA_isAskOfTelling 18 = .ok (.aload_n 0, 1) := by decide +kernel
theorem dA_isAskOfTelling_19 : decode cA_isAskOfTelling 19 = .ok (.getfield 10, 3) := by decide +kernel
theorem dA_isAskOfTelling_22 : decode cA_isAskOfTelling 22 = .ok (.getfield 82, 3) := by decide +kernel
theorem dA_isAskOfTelling_25 : decode cA_isAskOfTelling 25 = .ok (.iload_n 2, 1) := by decide +kernel
theorem dA_isAskOfTelling_26 : decode cA_isAskOfTelling 26 = .ok (.invokestatic 85, 3) := by decide +kernel
theorem dA_isAskOfTelling_29 : decode cA_isAskOfTelling 29 = .ok (.ifCond .ne 21, 3) := by decide +kernel
theorem dA_isAskOfTelling_32 : decode cA_isAskOfTelling 32 = .ok (.aload_n 0, 1) := by decide +kernel
theorem dA_isAskOfTelling_33 : decode cA_isAskOfTelling 33 = .ok (.getfield 10, 3) := by decide +kernel
theorem dA_isAskOfTelling_36 : decode cA_isAskOfTelling 36 = .ok (.getfield 82, 3) := by decide +kernel
theorem dA_isAskOfTelling_39 : decode cA_isAskOfTelling 39 = .ok (.iload_n 3, 1) := by decide +kernel
theorem dA_isAskOfTelling_40 : decode cA_isAskOfTelling 40 = .ok (.invokestatic 85, 3) := by decide +kernel
theorem dA_isAskOfTelling_43 : decode cA_isAskOfTelling 43 = .ok (.ifCond .ne 7, 3) := by decide +kernel
theorem dA_isAskOfTelling_46 : decode cA_isAskOfTelling 46 = .ok (.iconst 1, 1) := by decide +kernel
theorem dA_isAskOfTelling_47 : decode cA_isAskOfTelling 47 = .ok (.goto 4, 3) := by decide +kernel
theorem dA_isAskOfTelling_50 : decode cA_isAskOfTelling 50 = .ok (.iconst 0, 1) := by decide +kernel
theorem dA_isAskOfTelling_51 : decode cA_isAskOfTelling 51 = .ok (.ireturn, 1) := by decide +kernel
def fA_isAskOfTelling (w : x_W) (v0 : Nat) (v1 : Int32) (v2 : Int32) (v3 : Int32) : Option Int32 :=
  if v1 < (0 : Int32) then
    some (0 : Int32)
  else
    if (2 : Int32) < v1 then
      some (0 : Int32)
    else
      (x_ob w v0 0).bind fun _ =>
      (fA_isPair w v0 v2 v3).bind fun t4 =>
      if t4 = (0 : Int32) then
        some (0 : Int32)
      else
        (x_fr w v0 0 0).bind fun t6 =>
        (x_fi w t6 2 2).bind fun t7 =>
        if (fA_has t7 v2) = (0 : Int32) then
          if (fA_has t7 v3) = (0 : Int32) then
            some (1 : Int32)
          else
            some (0 : Int32)
        else
          some (0 : Int32)
set_option maxHeartbeats 4000000 in
set_option maxRecDepth 100000 in
theorem mA_isAskOfTelling (d : Nat) (hd : 3 ≤ d) {K : Option Value → x_W → Prop} {w : x_W} {v0 : Nat} {v1 : Int32} {v2 : Int32} {v3 : Int32} {r : Int32} (h : fA_isAskOfTelling w v0 v1 v2 v3 = some r) (hK : K (some (.int r)) w) : x_M yA_isAskOfTelling cA_isAskOfTelling 4 (some .boolean) d 0 0 [.ref v0, .int v1, .int v2, .int v3] w K := by
  refine x_M.of [some (.ref v0), some (.int v1), some (.int v2), some (.int v3)] (by decide) rfl (Nat.le_of_ble_eq_true rfl) ?_
  unfold fA_isAskOfTelling at h
  refine g_iload_n 1 (i := 1) dA_isAskOfTelling_0 rfl rfl rfl ?_
  by_cases c1 : v1 < (0 : Int32)
  · rw [if_pos c1] at h
    refine g_if_lt_t 50 dA_isAskOfTelling_1 (by decide) c1 ?_
    refine g_iconst 51 (0 : Int32) dA_isAskOfTelling_50 rfl (by decide) ?_
    obtain rfl := Option.some.inj h
    exact g_zret rfl (by decide) dA_isAskOfTelling_51 hK
  · rw [if_neg c1] at h
    refine g_if_lt_f 4 50 dA_isAskOfTelling_1 (by decide) rfl c1 ?_
    refine g_iload_n 5 (i := 1) dA_isAskOfTelling_4 rfl rfl rfl ?_
    refine g_iconst 6 (2 : Int32) dA_isAskOfTelling_5 rfl (by decide) ?_
    by_cases c2 : (2 : Int32) < v1
    · rw [if_pos c2] at h
      refine g_icmp_gt_t 50 dA_isAskOfTelling_6 (by decide) c2 ?_
      refine g_iconst 51 (0 : Int32) dA_isAskOfTelling_50 rfl (by decide) ?_
      obtain rfl := Option.some.inj h
      exact g_zret rfl (by decide) dA_isAskOfTelling_51 hK
    · rw [if_neg c2] at h
      refine g_icmp_gt_f 9 50 dA_isAskOfTelling_6 (by decide) rfl c2 ?_
      refine g_aload_n 10 (i := 0) dA_isAskOfTelling_9 rfl rfl rfl ?_
      refine g_iload_n 11 (i := 2) dA_isAskOfTelling_10 rfl rfl rfl ?_
      refine g_iload_n 12 (i := 3) dA_isAskOfTelling_11 rfl rfl rfl ?_
      obtain ⟨_, e3, h⟩ := x_bind h
      obtain ⟨t4, e4, h⟩ := x_bind h
      refine g_cV 15 (some (.int t4)) w [.int v2, .int v3] [] dA_isAskOfTelling_12 rfl (fun _ hK2 => mA_isPair (d - 1) (by omega) e4 hK2) (x_ob_some e3) kA_134 (x_rm (Nat.le_trans (by decide) hd) (by decide)) ⟨Nat.zero_le _, Nat.zero_le _⟩ (Nat.le_of_ble_eq_true rfl) rfl ?_
      by_cases c5 : t4 = (0 : Int32)
      · rw [if_pos c5] at h
        refine g_if_eq_t 50 dA_isAskOfTelling_15 (by decide) c5 ?_
        refine g_iconst 51 (0 : Int32) dA_isAskOfTelling_50 rfl (by decide) ?_
        obtain rfl := Option.some.inj h
        exact g_zret rfl (by decide) dA_isAskOfTelling_51 hK
      · rw [if_neg c5] at h
        refine g_if_eq_f 18 50 dA_isAskOfTelling_15 (by decide) rfl c5 ?_
        refine g_aload_n 19 (i := 0) dA_isAskOfTelling_18 rfl rfl rfl ?_
        obtain ⟨t6, e6, h⟩ := x_bind h
        refine g_getfR 22 0 0 dA_isAskOfTelling_19 rfl x_in0 tw_1_115 rfl (by decide) e6 ?_
        obtain ⟨t7, e7, h⟩ := x_bind h
        refine g_getfI 25 2 2 dA_isAskOfTelling_22 rfl x_in2 tw_1_60 rfl (by decide) e7 ?_
        refine g_iload_n 26 (i := 2) dA_isAskOfTelling_25 rfl rfl rfl ?_
        refine g_cS 29 (some (.int (fA_has t7 v2))) w [.int t7, .int v2] [] dA_isAskOfTelling_26 rfl (fun _ hK2 => mA_has (d - 1) (by omega) rfl hK2) kA_85 (x_rm (Nat.le_trans (by decide) hd) (by decide)) ⟨Nat.zero_le _, Nat.zero_le _⟩ (Nat.le_of_ble_eq_true rfl) rfl ?_
        by_cases c8 : (fA_has t7 v2) = (0 : Int32)
        · rw [if_pos c8] at h
          refine g_if_ne_f 32 50 dA_isAskOfTelling_29 (by decide) rfl c8 ?_
          refine g_aload_n 33 (i := 0) dA_isAskOfTelling_32 rfl rfl rfl ?_
          refine g_getfR 36 0 0 dA_isAskOfTelling_33 rfl x_in0 tw_1_115 rfl (by decide) e6 ?_
          refine g_getfI 39 2 2 dA_isAskOfTelling_36 rfl x_in2 tw_1_60 rfl (by decide) e7 ?_
          refine g_iload_n 40 (i := 3) dA_isAskOfTelling_39 rfl rfl rfl ?_
          refine g_cS 43 (some (.int (fA_has t7 v3))) w [.int t7, .int v3] [] dA_isAskOfTelling_40 rfl (fun _ hK2 => mA_has (d - 1) (by omega) rfl hK2) kA_85 (x_rm (Nat.le_trans (by decide) hd) (by decide)) ⟨Nat.zero_le _, Nat.zero_le _⟩ (Nat.le_of_ble_eq_true rfl) rfl ?_
          by_cases c9 : (fA_has t7 v3) = (0 : Int32)
          · rw [if_pos c9] at h
            refine g_if_ne_f 46 50 dA_isAskOfTelling_43 (by decide) rfl c9 ?_
            refine g_iconst 47 (1 : Int32) dA_isAskOfTelling_46 rfl (by decide) ?_
            refine g_goto 51 dA_isAskOfTelling_47 (by decide) ?_
            obtain rfl := Option.some.inj h
            exact g_zret rfl (by decide) dA_isAskOfTelling_51 hK
          · rw [if_neg c9] at h
            refine g_if_ne_t 50 dA_isAskOfTelling_43 (by decide) c9 ?_
            refine g_iconst 51 (0 : Int32) dA_isAskOfTelling_50 rfl (by decide) ?_
            obtain rfl := Option.some.inj h
            exact g_zret rfl (by decide) dA_isAskOfTelling_51 hK
        · rw [if_neg c8] at h
          refine g_if_ne_t 50 dA_isAskOfTelling_29 (by decide) c8 ?_
          refine g_iconst 51 (0 : Int32) dA_isAskOfTelling_50 rfl (by decide) ?_
          obtain rfl := Option.some.inj h
          exact g_zret rfl (by decide) dA_isAskOfTelling_51 hK
/-! ActSurgery$Arrows.copyWithout(LActSurgery$Arrows;I)V: level X -/
theorem dR_copyWithout_0 : decode cR_copyWithout 0 = .ok (.aload_n 0, 1) := by decide +kernel
theorem dR_copyWithout_1 : decode cR_copyWithout 1 = .ok (.aload_n 1, 1) := by decide +kernel
theorem dR_copyWithout_2 : decode cR_copyWithout 2 = .ok (.getfield 15, 3) := by decide +kernel
theorem dR_copyWithout_5 : decode cR_copyWithout 5 = .ok (.putfield 15, 3) := by decide +kernel
theorem dR_copyWithout_8 : decode cR_copyWithout 8 = .ok (.iconst 0, 1) := by decide +kernel
theorem dR_copyWithout_9 : decode cR_copyWithout 9 = .ok (.istore_n 3, 1) := by decide +kernel
theorem dR_copyWithout_10 : decode cR_copyWithout 10 = .ok (.iload_n 3, 1) := by decide +kernel
theorem dR_copyWithout_11 : decode cR_copyWithout 11 = .ok (.aload_n 0, 1) := by decide +kernel
theorem dR_copyWithout_12 : decode cR_copyWithout 12 = .ok (.getfield 15, 3) := by decide +kernel
theorem dR_copyWithout_15 : decode cR_copyWithout 15 = .ok (.if_icmp .ge 25, 3) := by decide +kernel
theorem dR_copyWithout_18 : decode cR_copyWithout 18 = .ok (.aload_n 0, 1) := by decide +kernel
theorem dR_copyWithout_19 : decode cR_copyWithout 19 = .ok (.getfield 9, 3) := by decide +kernel
theorem dR_copyWithout_22 : decode cR_copyWithout 22 = .ok (.iload_n 3, 1) := by decide +kernel
theorem dR_copyWithout_23 : decode cR_copyWithout 23 = .ok (.aload_n 1, 1) := by decide +kernel
theorem dR_copyWithout_24 : decode cR_copyWithout 24 = .ok (.getfield 9, 3) := by decide +kernel
theorem dR_copyWithout_27 : decode cR_copyWithout 27 = .ok (.iload_n 3, 1) := by decide +kernel
theorem dR_copyWithout_28 : decode cR_copyWithout 28 = .ok (.iaload, 1) := by decide +kernel
theorem dR_copyWithout_29 : decode cR_copyWithout 29 = .ok (.iload_n 2, 1) := by decide +kernel
theorem dR_copyWithout_30 : decode cR_copyWithout 30 = .ok (.iconst (-1), 1) := by decide +kernel
theorem dR_copyWithout_31 : decode cR_copyWithout 31 = .ok (.ixor, 1) := by decide +kernel
theorem dR_copyWithout_32 : decode cR_copyWithout 32 = .ok (.iand, 1) := by decide +kernel
theorem dR_copyWithout_33 : decode cR_copyWithout 33 = .ok (.iastore, 1) := by decide +kernel
theorem dR_copyWithout_34 : decode cR_copyWithout 34 = .ok (.iinc 3 1, 3) := by decide +kernel
theorem dR_copyWithout_37 : decode cR_copyWithout 37 = .ok (.goto (-27), 3) := by decide +kernel
theorem dR_copyWithout_40 : decode cR_copyWithout 40 = .ok (.return_, 1) := by decide +kernel
def fR_copyWithout_10  : Nat → x_W → Nat → Nat → Int32 → Int32 → Option x_W
  | 0, _, _, _, _, _ => none
  | n + 1, w, v0, v1, v2, v3 =>
    (x_fi w v0 1 0).bind fun t1 =>
    if t1 ≤ v3 then
      some w
    else
      (x_fr w v0 1 1).bind fun t3 =>
      (x_fr w v1 1 1).bind fun t4 =>
      (x_ai w t4 v3).bind fun t5 =>
      (x_pa w t3 v3 (t5 &&& (v2 ^^^ (-1 : Int32)))).bind fun w6 =>
      fR_copyWithout_10 n w6 v0 v1 v2 (v3 + (1 : Int32))
def fR_copyWithout  (w : x_W) (v0 : Nat) (v1 : Nat) (v2 : Int32) : Option x_W :=
  (x_fi w v1 1 0).bind fun t1 =>
  (x_pf w v0 1 0 (.int t1)).bind fun w2 =>
  fR_copyWithout_10 x_F w2 v0 v1 v2 (0 : Int32)
set_option maxHeartbeats 4000000 in
set_option maxRecDepth 100000 in
theorem lR_copyWithout_10 (d : Nat) (hd : 1 ≤ d) {K : Option Value → x_W → Prop} {r : x_W} (hK : K none r) : ∀ (n : Nat) (w : x_W) (v0 : Nat) (v1 : Nat) (v2 : Int32) (v3 : Int32), fR_copyWithout_10 n w v0 v1 v2 v3 = some r → x_G none yR_copyWithout cR_copyWithout 4 none (x_room d 0 0) (x_QM K 0 0) 10 [some (.ref v0), some (.ref v1), some (.int v2), some (.int v3)] [] w 0 0 := by
  intro n
  induction n with
  | zero => intro w v0 v1 v2 v3 h; rw [fR_copyWithout_10] at h; cases h
  | succ n ih =>
    intro w v0 v1 v2 v3 h
    rw [fR_copyWithout_10] at h
    refine g_iload_n 11 (i := 3) dR_copyWithout_10 rfl rfl rfl ?_
    refine g_aload_n 12 (i := 0) dR_copyWithout_11 rfl rfl rfl ?_
    obtain ⟨t1, e1, h⟩ := x_bind h
    refine g_getfI 15 1 0 dR_copyWithout_12 rfl x_in1 tw_1_31 rfl (by decide) e1 ?_
    by_cases c2 : t1 ≤ v3
    · rw [if_pos c2] at h
      refine g_icmp_ge_t 40 dR_copyWithout_15 (by decide) c2 ?_
      obtain rfl := Option.some.inj h
      exact g_vret rfl dR_copyWithout_40 hK
    · rw [if_neg c2] at h
      refine g_icmp_ge_f 18 40 dR_copyWithout_15 (by decide) rfl c2 ?_
      refine g_aload_n 19 (i := 0) dR_copyWithout_18 rfl rfl rfl ?_
      obtain ⟨t3, e3, h⟩ := x_bind h
      refine g_getfR 22 1 1 dR_copyWithout_19 rfl x_in1 tw_1_34 rfl (by decide) e3 ?_
      refine g_iload_n 23 (i := 3) dR_copyWithout_22 rfl rfl rfl ?_
      refine g_aload_n 24 (i := 1) dR_copyWithout_23 rfl rfl rfl ?_
      obtain ⟨t4, e4, h⟩ := x_bind h
      refine g_getfR 27 1 1 dR_copyWithout_24 rfl x_in1 tw_1_34 rfl (by decide) e4 ?_
      refine g_iload_n 28 (i := 3) dR_copyWithout_27 rfl rfl rfl ?_
      obtain ⟨t5, e5, h⟩ := x_bind h
      refine g_iald 29 dR_copyWithout_28 rfl e5 ?_
      refine g_iload_n 30 (i := 2) dR_copyWithout_29 rfl rfl rfl ?_
      refine g_iconst 31 (-1 : Int32) dR_copyWithout_30 rfl (by decide) ?_
      refine g_ixor 32 dR_copyWithout_31 rfl ?_
      refine g_iand 33 dR_copyWithout_32 rfl ?_
      obtain ⟨w6, e6, h⟩ := x_bind h
      refine g_iast 34 dR_copyWithout_33 rfl e6 ?_
      refine g_iinc 37 [some (.ref v0), some (.ref v1), some (.int v2), some (.int (v3 + (1 : Int32)))] dR_copyWithout_34 rfl rfl (x_inc (1 : Int32) (by decide)) rfl (by decide) ?_
      refine g_goto 10 dR_copyWithout_37 (by decide) ?_
      exact ih _ _ _ _ _ h
set_option maxHeartbeats 4000000 in
set_option maxRecDepth 100000 in
theorem mR_copyWithout (d : Nat) (hd : 1 ≤ d) {K : Option Value → x_W → Prop} {w : x_W} {v0 : Nat} {v1 : Nat} {v2 : Int32} {r : x_W} (h : fR_copyWithout w v0 v1 v2 = some r) (hK : K none r) : x_M yR_copyWithout cR_copyWithout 4 none d 0 0 [.ref v0, .ref v1, .int v2] w K := by
  refine x_M.of [some (.ref v0), some (.ref v1), some (.int v2), none] (by decide) rfl (Nat.le_of_ble_eq_true rfl) ?_
  unfold fR_copyWithout at h
  refine g_aload_n 1 (i := 0) dR_copyWithout_0 rfl rfl rfl ?_
  refine g_aload_n 2 (i := 1) dR_copyWithout_1 rfl rfl rfl ?_
  obtain ⟨t1, e1, h⟩ := x_bind h
  refine g_getfI 5 1 0 dR_copyWithout_2 rfl x_in1 tw_1_31 rfl (by decide) e1 ?_
  obtain ⟨w2, e2, h⟩ := x_bind h
  refine g_putf 8 1 0 xy1 xy1_ok xn1 dR_copyWithout_5 rfl x_in1 tw_1_31 rfl (by decide) rfl (fun _ _ => ⟨rfl, rfl⟩) e2 ?_
  refine g_iconst 9 (0 : Int32) dR_copyWithout_8 rfl (by decide) ?_
  refine g_istore_n 10 (i := 3) [some (.ref v0), some (.ref v1), some (.int v2), some (.int (0 : Int32))] dR_copyWithout_9 rfl rfl rfl (by decide) ?_
  exact lR_copyWithout_10 d hd hK x_F _ _ _ _ _ h
/-! ActSurgery.isBackSet(III)Z: level X -/
theorem dA_isBackSet_0 : decode cA_isBackSet 0 = .ok (.iload_n 3, 1) := by decide +kernel
theorem dA_isBackSet_1 : decode cA_isBackSet 1 = .ok (.aload_n 0, 1) := by decide +kernel
theorem dA_isBackSet_2 : decode cA_isBackSet 2 = .ok (.getfield 10, 3) := by decide +kernel
theorem dA_isBackSet_5 : decode cA_isBackSet 5 = .ok (.getfield 43, 3) := by decide +kernel
theorem dA_isBackSet_8 : decode cA_isBackSet 8 = .ok (.iload_n 1, 1) := by decide +kernel
theorem dA_isBackSet_9 : decode cA_isBackSet 9 = .ok (.invokevirtual 115, 3) := by decide +kernel
theorem dA_isBackSet_12 : decode cA_isBackSet 12 = .ok (.iand, 1) := by decide +kernel
theorem dA_isBackSet_13 : decode cA_isBackSet 13 = .ok (.ifCond .eq 5, 3) := by decide +kernel
theorem dA_isBackSet_16 : decode cA_isBackSet 16 = .ok (.iconst 0, 1) := by decide +kernel
theorem dA_isBackSet_17 : decode cA_isBackSet 17 = .ok (.ireturn, 1) := by decide +kernel
theorem dA_isBackSet_18 : decode cA_isBackSet 18 = .ok (.aload_n 0, 1) := by decide +kernel
theorem dA_isBackSet_19 : decode cA_isBackSet 19 = .ok (.getfield 22, 3) := by decide +kernel
theorem dA_isBackSet_22 : decode cA_isBackSet 22 = .ok (.aload_n 0, 1) := by decide +kernel
theorem dA_isBackSet_23 : decode cA_isBackSet 23 = .ok (.getfield 10, 3) := by decide +kernel
theorem dA_isBackSet_26 : decode cA_isBackSet 26 = .ok (.getfield 43, 3) := by decide +kernel
theorem dA_isBackSet_29 : decode cA_isBackSet 29 = .ok (.iconst 1, 1) := by decide +kernel
theorem dA_isBackSet_30 : decode cA_isBackSet 30 = .ok (.iload_n 1, 1) := by decide +kernel
theorem dA_isBackSet_31 : decode cA_isBackSet 31 = .ok (.ishl, 1) := by decide +kernel
theorem dA_isBackSet_32 : decode cA_isBackSet 32 = .ok (.invokevirtual 204, 3) := by decide +kernel
theorem dA_isBackSet_35 : decode cA_isBackSet 35 = .ok (.aload_n 0, 1) := by decide +kernel
theorem dA_isBackSet_36 : decode cA_isBackSet 36 = .ok (.getfield 22, 3) := by decide +kernel
theorem dA_isBackSet_39 : decode cA_isBackSet 39 = .ok (.iload_n 1, 1) := by decide +kernel
theorem dA_isBackSet_40 : decode cA_isBackSet 40 = .ok (.iload_n 2, 1) := by decide +kernel
theorem dA_isBackSet_41 : decode cA_isBackSet 41 = .ok (.iload_n 3, 1) := by decide +kernel
theorem dA_isBackSet_42 : decode cA_isBackSet 42 = .ok (.invokevirtual 131, 3) := by decide +kernel
theorem dA_isBackSet_45 : decode cA_isBackSet 45 = .ok (.ireturn, 1) := by decide +kernel
theorem tw_2_99 : (Jvm.Cond.instanceMethod ({ cls := "ActSurgery$Arrows", name := "copyWithout", desc := "(LActSurgery$Arrows;I)V" } : Jvm.MethodName)) ∈ x_GT := x_t2 99 rfl rfl
theorem tw_2_100 : (Jvm.Cond.selects "ActSurgery$Arrows" ({ cls := "ActSurgery$Arrows", name := "copyWithout", desc := "(LActSurgery$Arrows;I)V" } : Jvm.MethodName) ({ cls := "ActSurgery$Arrows", name := "copyWithout", desc := "(LActSurgery$Arrows;I)V" } : Jvm.MethodName)) ∈ x_GT := x_t2 100 rfl rfl
theorem tw_2_101 : (Jvm.Cond.code ({ cls := "ActSurgery$Arrows", name := "copyWithout", desc := "(LActSurgery$Arrows;I)V" } : Jvm.MethodName) prog_2_method_2_code (4 : Nat) (Option.none : Option Jvm.ClassFile.FieldType)) ∈ x_GT := x_t2 101 rfl rfl
theorem tw_2_98 : (Jvm.Cond.methodLink "ActSurgery" (204 : Nat) ({ cls := "ActSurgery$Arrows", name := "copyWithout", desc := "(LActSurgery$Arrows;I)V" } : Jvm.MethodName)) ∈ x_GT := x_t2 98 rfl rfl
theorem kA_204 : x_kV "ActSurgery" 204 yR_copyWithout cR_copyWithout 4 none 2 1 := ⟨tw_2_99, tw_2_100, tw_2_101, tw_1_3, tw_2_98, (by decide +kernel), rfl⟩
def fA_isBackSet  (w : x_W) (v0 : Nat) (v1 : Int32) (v2 : Int32) (v3 : Int32) : Option (Int32 × x_W) :=
  (x_fr w v0 0 0).bind fun t1 =>
  (x_fr w t1 2 0).bind fun t2 =>
  (x_ob w t2 1).bind fun _ =>
  (fR_afterOf w t2 v1).bind fun t4 =>
  if (v3 &&& t4) = (0 : Int32) then
    (x_fr w v0 0 2).bind fun t6 =>
    (x_ob w t6 1).bind fun _ =>
    (fR_copyWithout w t6 t2 ((1 : Int32) <<< (v1 &&& 31))).bind fun w8 =>
    (x_fr w8 v0 0 2).bind fun t9 =>
    (x_ob w8 t9 1).bind fun _ =>
    (fR_isParted w8 t9 v1 v2 v3).bind fun t11 =>
    if t11 = 0 ∨ t11 = 1 then some (t11, w8) else none
  else
    some ((0 : Int32), w)
set_option maxHeartbeats 4000000 in
set_option maxRecDepth 100000 in
theorem mA_isBackSet (d : Nat) (hd : 13 ≤ d) {K : Option Value → x_W → Prop} {w : x_W} {v0 : Nat} {v1 : Int32} {v2 : Int32} {v3 : Int32} {r : (Int32 × x_W)} (h : fA_isBackSet w v0 v1 v2 v3 = some r) (hK : K (some (.int r.1)) r.2) : x_M yA_isBackSet cA_isBackSet 4 (some .boolean) d 0 0 [.ref v0, .int v1, .int v2, .int v3] w K := by
  refine x_M.of [some (.ref v0), some (.int v1), some (.int v2), some (.int v3)] (by decide) rfl (Nat.le_of_ble_eq_true rfl) ?_
  unfold fA_isBackSet at h
  refine g_iload_n 1 (i := 3) dA_isBackSet_0 rfl rfl rfl ?_
  refine g_aload_n 2 (i := 0) dA_isBackSet_1 rfl rfl rfl ?_
  obtain ⟨t1, e1, h⟩ := x_bind h
  refine g_getfR 5 0 0 dA_isBackSet_2 rfl x_in0 tw_1_115 rfl (by decide) e1 ?_
  obtain ⟨t2, e2, h⟩ := x_bind h
  refine g_getfR 8 2 0 dA_isBackSet_5 rfl x_in2 tw_1_57 rfl (by decide) e2 ?_
  refine g_iload_n 9 (i := 1) dA_isBackSet_8 rfl rfl rfl ?_
  obtain ⟨_, e3, h⟩ := x_bind h
  obtain ⟨t4, e4, h⟩ := x_bind h
  refine g_cV 12 (some (.int t4)) w [.int v1] [.int v3] dA_isBackSet_9 rfl (fun _ hK2 => mR_afterOf (d - 1) (by omega) e4 hK2) (x_ob_some e3) kA_115 (x_rm (Nat.le_trans (by decide) hd) (by decide)) ⟨Nat.zero_le _, Nat.zero_le _⟩ (Nat.le_of_ble_eq_true rfl) rfl ?_
  refine g_iand 13 dA_isBackSet_12 rfl ?_
  by_cases c5 : (v3 &&& t4) = (0 : Int32)
  · rw [if_pos c5] at h
    refine g_if_eq_t 18 dA_isBackSet_13 (by decide) c5 ?_
    refine g_aload_n 19 (i := 0) dA_isBackSet_18 rfl rfl rfl ?_
    obtain ⟨t6, e6, h⟩ := x_bind h
    refine g_getfR 22 0 2 dA_isBackSet_19 rfl x_in0 tw_1_117 rfl (by decide) e6 ?_
    refine g_aload_n 23 (i := 0) dA_isBackSet_22 rfl rfl rfl ?_
    refine g_getfR 26 0 0 dA_isBackSet_23 rfl x_in0 tw_1_115 rfl (by decide) e1 ?_
    refine g_getfR 29 2 0 dA_isBackSet_26 rfl x_in2 tw_1_57 rfl (by decide) e2 ?_
    refine g_iconst 30 (1 : Int32) dA_isBackSet_29 rfl (by decide) ?_
    refine g_iload_n 31 (i := 1) dA_isBackSet_30 rfl rfl rfl ?_
    refine g_ishl 32 dA_isBackSet_31 rfl ?_
    obtain ⟨_, e7, h⟩ := x_bind h
    obtain ⟨w8, e8, h⟩ := x_bind h
    refine g_cV 35 none w8 [.ref t2, .int ((1 : Int32) <<< (v1 &&& 31))] [] dA_isBackSet_32 rfl (fun _ hK2 => mR_copyWithout (d - 1) (by omega) e8 hK2) (x_ob_some e7) kA_204 (x_rm (Nat.le_trans (by decide) hd) (by decide)) ⟨Nat.zero_le _, Nat.zero_le _⟩ (Nat.le_of_ble_eq_true rfl) rfl ?_
    refine g_aload_n 36 (i := 0) dA_isBackSet_35 rfl rfl rfl ?_
    obtain ⟨t9, e9, h⟩ := x_bind h
    refine g_getfR 39 0 2 dA_isBackSet_36 rfl x_in0 tw_1_117 rfl (by decide) e9 ?_
    refine g_iload_n 40 (i := 1) dA_isBackSet_39 rfl rfl rfl ?_
    refine g_iload_n 41 (i := 2) dA_isBackSet_40 rfl rfl rfl ?_
    refine g_iload_n 42 (i := 3) dA_isBackSet_41 rfl rfl rfl ?_
    obtain ⟨_, e10, h⟩ := x_bind h
    obtain ⟨t11, e11, h⟩ := x_bind h
    refine g_cV 45 (some (.int t11)) w8 [.int v1, .int v2, .int v3] [] dA_isBackSet_42 rfl (fun _ hK2 => mR_isParted (d - 1) (by omega) e11 hK2) (x_ob_some e10) kA_131 (x_rm (Nat.le_trans (by decide) hd) (by decide)) ⟨Nat.zero_le _, Nat.zero_le _⟩ (Nat.le_of_ble_eq_true rfl) rfl ?_
    have c12 : t11 = 0 ∨ t11 = 1 := by
      by_cases c : t11 = 0 ∨ t11 = 1
      · exact c
      · rw [if_neg c] at h; cases h
    rw [if_pos c12] at h
    obtain rfl := Option.some.inj h
    exact g_zret rfl c12 dA_isBackSet_45 hK
  · rw [if_neg c5] at h
    refine g_if_eq_f 16 18 dA_isBackSet_13 (by decide) rfl c5 ?_
    refine g_iconst 17 (0 : Int32) dA_isBackSet_16 rfl (by decide) ?_
    obtain rfl := Option.some.inj h
    exact g_zret rfl (by decide) dA_isBackSet_17 hK
/-! ActSurgery.isEachParted(LActSurgery$Arrows;III)Z: level P -/
theorem dA_isEachParted_0 : decode cA_isEachParted 0 = .ok (.iconst 0, 1) := by decide +kernel
theorem dA_isEachParted_1 : decode cA_isEachParted 1 = .ok (.istore 4, 2) := by decide +kernel
theorem dA_isEachParted_3 : decode cA_isEachParted 3 = .ok (.iload 4, 2) := by decide +kernel
theorem dA_isEachParted_5 : decode cA_isEachParted 5 = .ok (.aload_n 0, 1) := by decide +kernel
theorem dA_isEachParted_6 : decode cA_isEachParted 6 = .ok (.getfield 46, 3) := by decide +kernel
theorem dA_isEachParted_9 : decode cA_isEachParted 9 = .ok (.if_icmp .ge 31, 3) := by decide +kernel
theorem dA_isEachParted_12 : decode cA_isEachParted 12 = .ok (.iload_n 1, 1) := by decide +kernel
theorem dA_isEachParted_13 : decode cA_isEachParted 13 = .ok (.iload 4, 2) := by decide +kernel
theorem dA_isEachParted_15 : decode cA_isEachParted 15 = .ok (.invokestatic 85, 3) := by decide +kernel
theorem dA_isEachParted_18 : decode cA_isEachParted 18 = .ok (.ifCond .eq 16, 3) := by decide +kernel
theorem dA_isEachParted_21 : decode cA_isEachParted 21 = .ok (.aload_n 0, 1) := by decide +kernel
theorem dA_isEachParted_22 : decode cA_isEachParted 22 = .ok (.iload 4, 2) := by decide +kernel
theorem dA_isEachParted_24 : decode cA_isEachParted 24 = .ok (.iload_n 2, 1) := by decide +kernel
theorem dA_isEachParted_25 : decode cA_isEachParted 25 = .ok (.iload_n 3, 1) := by decide +kernel
theorem dA_isEachParted_26 : decode cA_isEachParted 26 = .ok (.invokevirtual 131, 3) := by decide +kernel
theorem dA_isEachParted_29 : decode cA_isEachParted 29 = .ok (.ifCond .ne 5, 3) := by decide +kernel
theorem dA_isEachParted_32 : decode cA_isEachParted 32 = .ok (.iconst 0, 1) := by decide +kernel
theorem dA_isEachParted_33 : decode cA_isEachParted 33 = .ok (.ireturn, 1) := by decide +kernel
theorem dA_isEachParted_34 : decode cA_isEachParted 34 = .ok (.iinc 4 1, 3) := by decide +kernel
theorem dA_isEachParted_37 : decode cA_isEachParted 37 = .ok (.goto (-34), 3) := by decide +kernel
theorem dA_isEachParted_40 : decode cA_isEachParted 40 = .ok (.iconst 1, 1) := by decide +kernel
theorem dA_isEachParted_41 : decode cA_isEachParted 41 = .ok (.ireturn, 1) := by decide +kernel
def fA_isEachParted_3 (w : x_W) : Nat → Nat → Int32 → Int32 → Int32 → Int32 → Option Int32
  | 0, _, _, _, _, _ => none
  | n + 1, v0, v1, v2, v3, v4 =>
    (x_fi w v0 1 0).bind fun t1 =>
    if t1 ≤ v4 then
      some (1 : Int32)
    else
      if (fA_has v1 v4) = (0 : Int32) then
        fA_isEachParted_3 w n v0 v1 v2 v3 (v4 + (1 : Int32))
      else
        (fR_isParted w v0 v4 v2 v3).bind fun t4 =>
        if t4 = (0 : Int32) then
          some (0 : Int32)
        else
          fA_isEachParted_3 w n v0 v1 v2 v3 (v4 + (1 : Int32))
def fA_isEachParted (w : x_W) (v0 : Nat) (v1 : Int32) (v2 : Int32) (v3 : Int32) : Option Int32 :=
  fA_isEachParted_3 w x_F v0 v1 v2 v3 (0 : Int32)
set_option maxHeartbeats 4000000 in
set_option maxRecDepth 100000 in
theorem lA_isEachParted_3 (d : Nat) (hd : 13 ≤ d) {K : Option Value → x_W → Prop} {r : Int32} {w : x_W} (hK : K (some (.int r)) w) : ∀ (n : Nat) (v0 : Nat) (v1 : Int32) (v2 : Int32) (v3 : Int32) (v4 : Int32), fA_isEachParted_3 w n v0 v1 v2 v3 v4 = some r → x_G none yA_isEachParted cA_isEachParted 5 (some .boolean) (x_room d 0 0) (x_QM K 0 0) 3 [some (.ref v0), some (.int v1), some (.int v2), some (.int v3), some (.int v4)] [] w 0 0 := by
  intro n
  induction n with
  | zero => intro v0 v1 v2 v3 v4 h; rw [fA_isEachParted_3] at h; cases h
  | succ n ih =>
    intro v0 v1 v2 v3 v4 h
    rw [fA_isEachParted_3] at h
    refine g_iload 5 dA_isEachParted_3 rfl rfl ?_
    refine g_aload_n 6 (i := 0) dA_isEachParted_5 rfl rfl rfl ?_
    obtain ⟨t1, e1, h⟩ := x_bind h
    refine g_getfI 9 1 0 dA_isEachParted_6 rfl x_in1 tw_1_33 rfl (by decide) e1 ?_
    by_cases c2 : t1 ≤ v4
    · rw [if_pos c2] at h
      refine g_icmp_ge_t 40 dA_isEachParted_9 (by decide) c2 ?_
      refine g_iconst 41 (1 : Int32) dA_isEachParted_40 rfl (by decide) ?_
      obtain rfl := Option.some.inj h
      exact g_zret rfl (by decide) dA_isEachParted_41 hK
    · rw [if_neg c2] at h
      refine g_icmp_ge_f 12 40 dA_isEachParted_9 (by decide) rfl c2 ?_
      refine g_iload_n 13 (i := 1) dA_isEachParted_12 rfl rfl rfl ?_
      refine g_iload 15 dA_isEachParted_13 rfl rfl ?_
      refine g_cS 18 (some (.int (fA_has v1 v4))) w [.int v1, .int v4] [] dA_isEachParted_15 rfl (fun _ hK2 => mA_has (d - 1) (by omega) rfl hK2) kA_85 (x_rm (Nat.le_trans (by decide) hd) (by decide)) ⟨Nat.zero_le _, Nat.zero_le _⟩ (Nat.le_of_ble_eq_true rfl) rfl ?_
      by_cases c3 : (fA_has v1 v4) = (0 : Int32)
      · rw [if_pos c3] at h
        refine g_if_eq_t 34 dA_isEachParted_18 (by decide) c3 ?_
        refine g_iinc 37 [some (.ref v0), some (.int v1), some (.int v2), some (.int v3), some (.int (v4 + (1 : Int32)))] dA_isEachParted_34 rfl rfl (x_inc (1 : Int32) (by decide)) rfl (by decide) ?_
        refine g_goto 3 dA_isEachParted_37 (by decide) ?_
        exact ih _ _ _ _ _ h
      · rw [if_neg c3] at h
        refine g_if_eq_f 21 34 dA_isEachParted_18 (by decide) rfl c3 ?_
        refine g_aload_n 22 (i := 0) dA_isEachParted_21 rfl rfl rfl ?_
        refine g_iload 24 dA_isEachParted_22 rfl rfl ?_
        refine g_iload_n 25 (i := 2) dA_isEachParted_24 rfl rfl rfl ?_
        refine g_iload_n 26 (i := 3) dA_isEachParted_25 rfl rfl rfl ?_
        obtain ⟨t4, e4, h⟩ := x_bind h
        refine g_cV 29 (some (.int t4)) w [.int v4, .int v2, .int v3] [] dA_isEachParted_26 rfl (fun _ hK2 => mR_isParted (d - 1) (by omega) e4 hK2) (x_fi_ob e1) kA_131 (x_rm (Nat.le_trans (by decide) hd) (by decide)) ⟨Nat.zero_le _, Nat.zero_le _⟩ (Nat.le_of_ble_eq_true rfl) rfl ?_
        by_cases c5 : t4 = (0 : Int32)
        · rw [if_pos c5] at h
          refine g_if_ne_f 32 34 dA_isEachParted_29 (by decide) rfl c5 ?_
          refine g_iconst 33 (0 : Int32) dA_isEachParted_32 rfl (by decide) ?_
          obtain rfl := Option.some.inj h
          exact g_zret rfl (by decide) dA_isEachParted_33 hK
        · rw [if_neg c5] at h
          refine g_if_ne_t 34 dA_isEachParted_29 (by decide) c5 ?_
          refine g_iinc 37 [some (.ref v0), some (.int v1), some (.int v2), some (.int v3), some (.int (v4 + (1 : Int32)))] dA_isEachParted_34 rfl rfl (x_inc (1 : Int32) (by decide)) rfl (by decide) ?_
          refine g_goto 3 dA_isEachParted_37 (by decide) ?_
          exact ih _ _ _ _ _ h
set_option maxHeartbeats 4000000 in
set_option maxRecDepth 100000 in
theorem mA_isEachParted (d : Nat) (hd : 13 ≤ d) {K : Option Value → x_W → Prop} {w : x_W} {v0 : Nat} {v1 : Int32} {v2 : Int32} {v3 : Int32} {r : Int32} (h : fA_isEachParted w v0 v1 v2 v3 = some r) (hK : K (some (.int r)) w) : x_M yA_isEachParted cA_isEachParted 5 (some .boolean) d 0 0 [.ref v0, .int v1, .int v2, .int v3] w K := by
  refine x_M.of [some (.ref v0), some (.int v1), some (.int v2), some (.int v3), none] (by decide) rfl (Nat.le_of_ble_eq_true rfl) ?_
  unfold fA_isEachParted at h
  refine g_iconst 1 (0 : Int32) dA_isEachParted_0 rfl (by decide) ?_
  refine g_istore 3 [some (.ref v0), some (.int v1), some (.int v2), some (.int v3), some (.int (0 : Int32))] dA_isEachParted_1 rfl rfl (by decide) ?_
  exact lA_isEachParted_3 d hd hK x_F _ _ _ _ _ h
/-! ActSurgery$Arrows.leadsPast(III)Z: level P -/
theorem dR_leadsPast_0 : decode cR_leadsPast 0 = .ok (.iconst 1, 1) := by decide +kernel
theorem dR_leadsPast_1 : decode cR_leadsPast 1 = .ok (.iload_n 1, 1) := by decide +kernel
theorem dR_leadsPast_2 : decode cR_leadsPast 2 = .ok (.ishl, 1) := by decide +kernel
theorem dR_leadsPast_3 : decode cR_leadsPast 3 = .ok (.istore 4, 2) := by decide +kernel
theorem dR_leadsPast_5 : decode cR_leadsPast 5 = .ok (.iload_n 1, 1) := by decide +kernel
theorem dR_leadsPast_6 : decode cR_leadsPast 6 = .ok (.iconst 1, 1) := by decide +kernel
theorem dR_leadsPast_7 : decode cR_leadsPast 7 = .ok (.iadd, 1) := by decide +kernel
theorem dR_leadsPast_8 : decode cR_leadsPast 8 = .ok (.istore 5, 2) := by decide +kernel
theorem dR_leadsPast_10 : decode cR_leadsPast 10 = .ok (.iload 5, 2) := by decide +kernel
theorem dR_leadsPast_12 : decode cR_leadsPast 12 = .ok (.aload_n 0, 1) := by decide +kernel
theorem dR_leadsPast_13 : decode cR_leadsPast 13 = .ok (.getfield 15, 3) := by decide +kernel
theorem dR_leadsPast_16 : decode cR_leadsPast 16 = .ok (.if_icmp .ge 40, 3) := by decide +kernel
theorem dR_leadsPast_19 : decode cR_leadsPast 19 = .ok (.iload_n 3, 1) := by decide +kernel
theorem dR_leadsPast_20 : decode cR_leadsPast 20 = .ok (.iload 5, 2) := by decide +kernel
theorem dR_leadsPast_22 : decode cR_leadsPast 22 = .ok (.invokestatic 25, 3) := by decide +kernel
theorem dR_leadsPast_25 : decode cR_leadsPast 25 = .ok (.ifCond .ne 25, 3) := by decide +kernel
theorem dR_leadsPast_28 : decode cR_leadsPast 28 = .ok (.aload_n 0, 1) := by decide +kernel
theorem dR_leadsPast_29 : decode cR_leadsPast 29 = .ok (.getfield 9, 3) := by decide +kernel
theorem dR_leadsPast_32 : decode cR_leadsPast 32 = .ok (.iload 5, 2) := by decide +kernel
theorem dR_leadsPast_34 : decode cR_leadsPast 34 = .ok (.iaload, 1) := by decide +kernel
theorem dR_leadsPast_35 : decode cR_leadsPast 35 = .ok (.iload 4, 2) := by decide +kernel
theorem dR_leadsPast_37 : decode cR_leadsPast 37 = .ok (.iand, 1) := by decide +kernel
theorem dR_leadsPast_38 : decode cR_leadsPast 38 = .ok (.ifCond .eq 12, 3) := by decide +kernel
theorem dR_leadsPast_41 : decode cR_leadsPast 41 = .ok (.iload 4, 2) := by decide +kernel
theorem dR_leadsPast_43 : decode cR_leadsPast 43 = .ok (.iconst 1, 1) := by decide +kernel
theorem dR_leadsPast_44 : decode cR_leadsPast 44 = .ok (.iload 5, 2) := by decide +kernel
theorem dR_leadsPast_46 : decode cR_leadsPast 46 = .ok (.ishl, 1) := by decide +kernel
theorem dR_leadsPast_47 : decode cR_leadsPast 47 = .ok (.ior, 1) := by decide +kernel
theorem dR_leadsPast_48 : decode cR_leadsPast 48 = .ok (.istore 4, 2) := by decide +kernel
theorem dR_leadsPast_50 : decode cR_leadsPast 50 = .ok (.iinc 5 1, 3) := by decide +kernel
theorem dR_leadsPast_53 : decode cR_leadsPast 53 = .ok (.goto (-43), 3) := by decide +kernel
theorem dR_leadsPast_56 : decode cR_leadsPast 56 = .ok (.iload 4, 2) := by decide +kernel
theorem dR_leadsPast_58 : decode cR_leadsPast 58 = .ok (.iload_n 2, 1) := by decide +kernel
theorem dR_leadsPast_59 : decode cR_leadsPast 59 = .ok (.invokestatic 25, 3) := by decide +kernel
theorem dR_leadsPast_62 : decode cR_leadsPast 62 = .ok (.ireturn, 1) := by decide +kernel
def fR_leadsPast_10 (w : x_W) : Nat → Nat → Int32 → Int32 → Int32 → Int32 → Option Int32
  | 0, _, _, _, _, _ => none
  | n + 1, v0, v2, v3, v4, v5 =>
    (x_fi w v0 1 0).bind fun t1 =>
    if t1 ≤ v5 then
      if (fA_has v4 v2) = 0 ∨ (fA_has v4 v2) = 1 then some (fA_has v4 v2) else none
    else
      if (fA_has v3 v5) = (0 : Int32) then
        (x_fr w v0 1 1).bind fun t5 =>
        (x_ai w t5 v5).bind fun t6 =>
        if (t6 &&& v4) = (0 : Int32) then
          fR_leadsPast_10 w n v0 v2 v3 v4 (v5 + (1 : Int32))
        else
          fR_leadsPast_10 w n v0 v2 v3 (v4 ||| ((1 : Int32) <<< (v5 &&& 31))) (v5 + (1 : Int32))
      else
        fR_leadsPast_10 w n v0 v2 v3 v4 (v5 + (1 : Int32))
def fR_leadsPast (w : x_W) (v0 : Nat) (v1 : Int32) (v2 : Int32) (v3 : Int32) : Option Int32 :=
  fR_leadsPast_10 w x_F v0 v2 v3 ((1 : Int32) <<< (v1 &&& 31)) (v1 + (1 : Int32))
set_option maxHeartbeats 4000000 in
set_option maxRecDepth 100000 in
theorem lR_leadsPast_10 (d : Nat) (hd : 2 ≤ d) {K : Option Value → x_W → Prop} {r : Int32} {w : x_W} (hK : K (some (.int r)) w) : ∀ (n : Nat) (v0 : Nat) (v2 : Int32) (v3 : Int32) (v4 : Int32) (v5 : Int32), fR_leadsPast_10 w n v0 v2 v3 v4 v5 = some r → x_G none yR_leadsPast cR_leadsPast 6 (some .boolean) (x_room d 0 0) (x_QM K 0 0) 10 [some (.ref v0), none, some (.int v2), some (.int v3), some (.int v4), some (.int v5)] [] w 0 0 := by
  intro n
  induction n with
  | zero => intro v0 v2 v3 v4 v5 h; rw [fR_leadsPast_10] at h; cases h
  | succ n ih =>
    intro v0 v2 v3 v4 v5 h
    rw [fR_leadsPast_10] at h
    refine g_iload 12 dR_leadsPast_10 rfl rfl ?_
    refine g_aload_n 13 (i := 0) dR_leadsPast_12 rfl rfl rfl ?_
    obtain ⟨t1, e1, h⟩ := x_bind h
    refine g_getfI 16 1 0 dR_leadsPast_13 rfl x_in1 tw_1_31 rfl (by decide) e1 ?_
    by_cases c2 : t1 ≤ v5
    · rw [if_pos c2] at h
      refine g_icmp_ge_t 56 dR_leadsPast_16 (by decide) c2 ?_
      refine g_iload 58 dR_leadsPast_56 rfl rfl ?_
      refine g_iload_n 59 (i := 2) dR_leadsPast_58 rfl rfl rfl ?_
      refine g_cSN 62 (some (.int (fA_has v4 v2))) w [.int v4, .int v2] [] dR_leadsPast_59 rfl (fun _ hK2 => mA_has (d - 1) (by omega) rfl hK2) kR_25 (x_rm (Nat.le_trans (by decide) hd) (by decide)) ⟨Nat.zero_le _, Nat.zero_le _⟩ (Nat.le_of_ble_eq_true rfl) rfl ?_
      have c3 : (fA_has v4 v2) = 0 ∨ (fA_has v4 v2) = 1 := by
        by_cases c : (fA_has v4 v2) = 0 ∨ (fA_has v4 v2) = 1
        · exact c
        · rw [if_neg c] at h; cases h
      rw [if_pos c3] at h
      obtain rfl := Option.some.inj h
      exact g_zret rfl c3 dR_leadsPast_62 hK
    · rw [if_neg c2] at h
      refine g_icmp_ge_f 19 56 dR_leadsPast_16 (by decide) rfl c2 ?_
      refine g_iload_n 20 (i := 3) dR_leadsPast_19 rfl rfl rfl ?_
      refine g_iload 22 dR_leadsPast_20 rfl rfl ?_
      refine g_cSN 25 (some (.int (fA_has v3 v5))) w [.int v3, .int v5] [] dR_leadsPast_22 rfl (fun _ hK2 => mA_has (d - 1) (by omega) rfl hK2) kR_25 (x_rm (Nat.le_trans (by decide) hd) (by decide)) ⟨Nat.zero_le _, Nat.zero_le _⟩ (Nat.le_of_ble_eq_true rfl) rfl ?_
      by_cases c4 : (fA_has v3 v5) = (0 : Int32)
      · rw [if_pos c4] at h
        refine g_if_ne_f 28 50 dR_leadsPast_25 (by decide) rfl c4 ?_
        refine g_aload_n 29 (i := 0) dR_leadsPast_28 rfl rfl rfl ?_
        obtain ⟨t5, e5, h⟩ := x_bind h
        refine g_getfR 32 1 1 dR_leadsPast_29 rfl x_in1 tw_1_34 rfl (by decide) e5 ?_
        refine g_iload 34 dR_leadsPast_32 rfl rfl ?_
        obtain ⟨t6, e6, h⟩ := x_bind h
        refine g_iald 35 dR_leadsPast_34 rfl e6 ?_
        refine g_iload 37 dR_leadsPast_35 rfl rfl ?_
        refine g_iand 38 dR_leadsPast_37 rfl ?_
        by_cases c7 : (t6 &&& v4) = (0 : Int32)
        · rw [if_pos c7] at h
          refine g_if_eq_t 50 dR_leadsPast_38 (by decide) c7 ?_
          refine g_iinc 53 [some (.ref v0), none, some (.int v2), some (.int v3), some (.int v4), some (.int (v5 + (1 : Int32)))] dR_leadsPast_50 rfl rfl (x_inc (1 : Int32) (by decide)) rfl (by decide) ?_
          refine g_goto 10 dR_leadsPast_53 (by decide) ?_
          exact ih _ _ _ _ _ h
        · rw [if_neg c7] at h
          refine g_if_eq_f 41 50 dR_leadsPast_38 (by decide) rfl c7 ?_
          refine g_iload 43 dR_leadsPast_41 rfl rfl ?_
          refine g_iconst 44 (1 : Int32) dR_leadsPast_43 rfl (by decide) ?_
          refine g_iload 46 dR_leadsPast_44 rfl rfl ?_
          refine g_ishl 47 dR_leadsPast_46 rfl ?_
          refine g_ior 48 dR_leadsPast_47 rfl ?_
          refine g_istore 50 [some (.ref v0), none, some (.int v2), some (.int v3), some (.int (v4 ||| ((1 : Int32) <<< (v5 &&& 31)))), some (.int v5)] dR_leadsPast_48 rfl rfl (by decide) ?_
          refine g_iinc 53 [some (.ref v0), none, some (.int v2), some (.int v3), some (.int (v4 ||| ((1 : Int32) <<< (v5 &&& 31)))), some (.int (v5 + (1 : Int32)))] dR_leadsPast_50 rfl rfl (x_inc (1 : Int32) (by decide)) rfl (by decide) ?_
          refine g_goto 10 dR_leadsPast_53 (by decide) ?_
          exact ih _ _ _ _ _ h
      · rw [if_neg c4] at h
        refine g_if_ne_t 50 dR_leadsPast_25 (by decide) c4 ?_
        refine g_iinc 53 [some (.ref v0), none, some (.int v2), some (.int v3), some (.int v4), some (.int (v5 + (1 : Int32)))] dR_leadsPast_50 rfl rfl (x_inc (1 : Int32) (by decide)) rfl (by decide) ?_
        refine g_goto 10 dR_leadsPast_53 (by decide) ?_
        exact ih _ _ _ _ _ h
set_option maxHeartbeats 4000000 in
set_option maxRecDepth 100000 in
theorem mR_leadsPast (d : Nat) (hd : 2 ≤ d) {K : Option Value → x_W → Prop} {w : x_W} {v0 : Nat} {v1 : Int32} {v2 : Int32} {v3 : Int32} {r : Int32} (h : fR_leadsPast w v0 v1 v2 v3 = some r) (hK : K (some (.int r)) w) : x_M yR_leadsPast cR_leadsPast 6 (some .boolean) d 0 0 [.ref v0, .int v1, .int v2, .int v3] w K := by
  refine x_M.of [some (.ref v0), some (.int v1), some (.int v2), some (.int v3), none, none] (by decide) rfl (Nat.le_of_ble_eq_true rfl) ?_
  unfold fR_leadsPast at h
  refine g_iconst 1 (1 : Int32) dR_leadsPast_0 rfl (by decide) ?_
  refine g_iload_n 2 (i := 1) dR_leadsPast_1 rfl rfl rfl ?_
  refine g_ishl 3 dR_leadsPast_2 rfl ?_
  refine g_istore 5 [some (.ref v0), some (.int v1), some (.int v2), some (.int v3), some (.int ((1 : Int32) <<< (v1 &&& 31))), none] dR_leadsPast_3 rfl rfl (by decide) ?_
  refine g_iload_n 6 (i := 1) dR_leadsPast_5 rfl rfl rfl ?_
  refine g_iconst 7 (1 : Int32) dR_leadsPast_6 rfl (by decide) ?_
  refine g_iadd 8 dR_leadsPast_7 rfl ?_
  refine g_istore 10 [some (.ref v0), some (.int v1), some (.int v2), some (.int v3), some (.int ((1 : Int32) <<< (v1 &&& 31))), some (.int (v1 + (1 : Int32)))] dR_leadsPast_8 rfl rfl (by decide) ?_
  refine g_less [some (.ref v0), none, some (.int v2), some (.int v3), some (.int ((1 : Int32) <<< (v1 &&& 31))), some (.int (v1 + (1 : Int32)))] ⟨rfl, rfl, rfl, rfl, rfl, trivial⟩ ?_
  exact lR_leadsPast_10 d hd hK x_F _ _ _ _ _ h
/-! ActSurgery.isFrontSet(III)Z: level X -/
theorem dA_isFrontSet_0 : decode cA_isFrontSet 0 = .ok (.iload_n 3, 1) := by decide +kernel
theorem dA_isFrontSet_1 : decode cA_isFrontSet 1 = .ok (.ifCond .eq 19, 3) := by decide +kernel
theorem dA_isFrontSet_4 : decode cA_isFrontSet 4 = .ok (.aload_n 0, 1) := by decide +kernel
theorem dA_isFrontSet_5 : decode cA_isFrontSet 5 = .ok (.getfield 10, 3) := by decide +kernel
theorem dA_isFrontSet_8 : decode cA_isFrontSet 8 = .ok (.getfield 43, 3) := by decide +kernel
theorem dA_isFrontSet_11 : decode cA_isFrontSet 11 = .ok (.iload_n 1, 1) := by decide +kernel
theorem dA_isFrontSet_12 : decode cA_isFrontSet 12 = .ok (.iload_n 2, 1) := by decide +kernel
theorem dA_isFrontSet_13 : decode cA_isFrontSet 13 = .ok (.iload_n 3, 1) := by decide +kernel
theorem dA_isFrontSet_14 : decode cA_isFrontSet 14 = .ok (.invokevirtual 208, 3) := by decide +kernel
theorem dA_isFrontSet_17 : decode cA_isFrontSet 17 = .ok (.ifCond .eq 5, 3) := by decide +kernel
theorem dA_isFrontSet_20 : decode cA_isFrontSet 20 = .ok (.iconst 0, 1) := by decide +kernel
theorem dA_isFrontSet_21 : decode cA_isFrontSet 21 = .ok (.ireturn, 1) := by decide +kernel
theorem dA_isFrontSet_22 : decode cA_isFrontSet 22 = .ok (.aload_n 0, 1) := by decide +kernel
theorem dA_isFrontSet_23 : decode cA_isFrontSet 23 = .ok (.getfield 22, 3) := by decide +kernel
theorem dA_isFrontSet_26 : decode cA_isFrontSet 26 = .ok (.aload_n 0, 1) := by decide +kernel
theorem dA_isFrontSet_27 : decode cA_isFrontSet 27 = .ok (.getfield 10, 3) := by decide +kernel
theorem dA_isFrontSet_30 : decode cA_isFrontSet 30 = .ok (.getfield 43, 3) := by decide +kernel
theorem dA_isFrontSet_33 : decode cA_isFrontSet 33 = .ok (.iconst 1, 1) := by decide +kernel
theorem dA_isFrontSet_34 : decode cA_isFrontSet 34 = .ok (.iload_n 1, 1) := by decide +kernel
theorem dA_isFrontSet_35 : decode cA_isFrontSet 35 = .ok (.ishl, 1) := by decide +kernel
theorem dA_isFrontSet_36 : decode cA_isFrontSet 36 = .ok (.invokevirtual 204, 3) := by decide +kernel
theorem dA_isFrontSet_39 : decode cA_isFrontSet 39 = .ok (.aload_n 0, 1) := by decide +kernel
theorem dA_isFrontSet_40 : decode cA_isFrontSet 40 = .ok (.getfield 22, 3) := by decide +kernel
theorem dA_isFrontSet_43 : decode cA_isFrontSet 43 = .ok (.iload_n 3, 1) := by decide +kernel
theorem dA_isFrontSet_44 : decode cA_isFrontSet 44 = .ok (.iload_n 1, 1) := by decide +kernel
theorem dA_isFrontSet_45 : decode cA_isFrontSet 45 = .ok (.iconst 0, 1) := by decide +kernel
theorem dA_isFrontSet_46 : decode cA_isFrontSet 46 = .ok (.invokestatic 211, 3) := by decide +kernel
theorem dA_isFrontSet_49 : decode cA_isFrontSet 49 = .ok (.ifCond .ne 5, 3) := by decide +kernel
theorem dA_isFrontSet_52 : decode cA_isFrontSet 52 = .ok (.iconst 0, 1) := by decide +kernel
theorem dA_isFrontSet_53 : decode cA_isFrontSet 53 = .ok (.ireturn, 1) := by decide +kernel
theorem dA_isFrontSet_54 : decode cA_isFrontSet 54 = .ok (.aload_n 0, 1) := by decide +kernel
theorem dA_isFrontSet_55 : decode cA_isFrontSet 55 = .ok (.getfield 22, 3) := by decide +kernel
theorem dA_isFrontSet_58 : decode cA_isFrontSet 58 = .ok (.aload_n 0, 1) := by decide +kernel
theorem dA_isFrontSet_59 : decode cA_isFrontSet 59 = .ok (.getfield 10, 3) := by decide +kernel
theorem dA_isFrontSet_62 : decode cA_isFrontSet 62 = .ok (.getfield 43, 3) := by decide +kernel
theorem dA_isFrontSet_65 : decode cA_isFrontSet 65 = .ok (.iload_n 3, 1) := by decide +kernel
theorem dA_isFrontSet_66 : decode cA_isFrontSet 66 = .ok (.invokevirtual 204, 3) := by decide +kernel
theorem dA_isFrontSet_69 : decode cA_isFrontSet 69 = .ok (.aload_n 0, 1) := by decide +kernel
theorem dA_isFrontSet_70 : decode cA_isFrontSet 70 = .ok (.getfield 22, 3) := by decide +kernel
theorem dA_isFrontSet_73 : decode cA_isFrontSet 73 = .ok (.iload_n 3, 1) := by decide +kernel
theorem dA_isFrontSet_74 : decode cA_isFrontSet 74 = .ok (.iload_n 2, 1) := by decide +kernel
theorem dA_isFrontSet_75 : decode cA_isFrontSet 75 = .ok (.iconst 1, 1) := by decide +kernel
theorem dA_isFrontSet_76 : decode cA_isFrontSet 76 = .ok (.iload_n 1, 1) := by decide +kernel
theorem dA_isFrontSet_77 : decode cA_isFrontSet 77 = .ok (.ishl, 1) := by decide +kernel
theorem dA_isFrontSet_78 : decode cA_isFrontSet 78 = .ok (.invokestatic 211, 3) := by decide +kernel
theorem dA_isFrontSet_81 : decode cA_isFrontSet 81 = .ok (.ireturn, 1) := by decide +kernel
theorem tw_2_107 : (Jvm.Cond.instanceMethod ({ cls := "ActSurgery$Arrows", name := "leadsPast", desc := "(III)Z" } : Jvm.MethodName)) ∈ x_GT := x_t2 107 rfl rfl
theorem tw_2_108 : (Jvm.Cond.selects "ActSurgery$Arrows" ({ cls := "ActSurgery$Arrows", name := "leadsPast", desc := "(III)Z" } : Jvm.MethodName) ({ cls := "ActSurgery$Arrows", name := "leadsPast", desc := "(III)Z" } : Jvm.MethodName)) ∈ x_GT := x_t2 108 rfl rfl
theorem tw_2_109 : (Jvm.Cond.code ({ cls := "ActSurgery$Arrows", name := "leadsPast", desc := "(III)Z" } : Jvm.MethodName) prog_2_method_8_code (6 : Nat) (Option.some Jvm.ClassFile.FieldType.boolean)) ∈ x_GT := x_t2 109 rfl rfl
theorem tw_2_106 : (Jvm.Cond.methodLink "ActSurgery" (208 : Nat) ({ cls := "ActSurgery$Arrows", name := "leadsPast", desc := "(III)Z" } : Jvm.MethodName)) ∈ x_GT := x_t2 106 rfl rfl
theorem kA_208 : x_kV "ActSurgery" 208 yR_leadsPast cR_leadsPast 6 (some .boolean) 3 1 := ⟨tw_2_107, tw_2_108, tw_2_109, tw_1_3, tw_2_106, (by decide +kernel), rfl⟩
theorem tw_2_111 : (Jvm.Cond.static ({ cls := "ActSurgery", name := "isEachParted", desc := "(LActSurgery$Arrows;III)Z" } : Jvm.MethodName)) ∈ x_GT := x_t2 111 rfl rfl
theorem tw_2_112 : (Jvm.Cond.code ({ cls := "ActSurgery", name := "isEachParted", desc := "(LActSurgery$Arrows;III)Z" } : Jvm.MethodName) prog_1_method_34_code (5 : Nat) (Option.some Jvm.ClassFile.FieldType.boolean)) ∈ x_GT := x_t2 112 rfl rfl
theorem tw_2_110 : (Jvm.Cond.methodLink "ActSurgery" (211 : Nat) ({ cls := "ActSurgery", name := "isEachParted", desc := "(LActSurgery$Arrows;III)Z" } : Jvm.MethodName)) ∈ x_GT := x_t2 110 rfl rfl
theorem kA_211 : x_kS "ActSurgery" 211 yA_isEachParted cA_isEachParted 5 (some .boolean) 4 := ⟨tw_2_111, tw_2_112, tw_1_1, tw_2_110, (by decide +kernel)⟩
def fA_isFrontSet  (w : x_W) (v0 : Nat) (v1 : Int32) (v2 : Int32) (v3 : Int32) : Option (Int32 × x_W) :=
  if v3 = (0 : Int32) then
    some ((0 : Int32), w)
  else
    (x_fr w v0 0 0).bind fun t2 =>
    (x_fr w t2 2 0).bind fun t3 =>
    (x_ob w t3 1).bind fun _ =>
    (fR_leadsPast w t3 v1 v2 v3).bind fun t5 =>
    if t5 = (0 : Int32) then
      (x_fr w v0 0 2).bind fun t7 =>
      (x_ob w t7 1).bind fun _ =>
      (fR_copyWithout w t7 t3 ((1 : Int32) <<< (v1 &&& 31))).bind fun w9 =>
      (x_fr w9 v0 0 2).bind fun t10 =>
      (fA_isEachParted w9 t10 v3 v1 (0 : Int32)).bind fun t11 =>
      if t11 = (0 : Int32) then
        some ((0 : Int32), w9)
      else
        (x_fr w9 v0 0 0).bind fun t13 =>
        (x_fr w9 t13 2 0).bind fun t14 =>
        (x_ob w9 t10 1).bind fun _ =>
        (fR_copyWithout w9 t10 t14 v3).bind fun w16 =>
        (x_fr w16 v0 0 2).bind fun t17 =>
        (fA_isEachParted w16 t17 v3 v2 ((1 : Int32) <<< (v1 &&& 31))).bind fun t18 =>
        if t18 = 0 ∨ t18 = 1 then some (t18, w16) else none
    else
      some ((0 : Int32), w)
set_option maxHeartbeats 4000000 in
set_option maxRecDepth 100000 in
theorem mA_isFrontSet (d : Nat) (hd : 14 ≤ d) {K : Option Value → x_W → Prop} {w : x_W} {v0 : Nat} {v1 : Int32} {v2 : Int32} {v3 : Int32} {r : (Int32 × x_W)} (h : fA_isFrontSet w v0 v1 v2 v3 = some r) (hK : K (some (.int r.1)) r.2) : x_M yA_isFrontSet cA_isFrontSet 4 (some .boolean) d 0 0 [.ref v0, .int v1, .int v2, .int v3] w K := by
  refine x_M.of [some (.ref v0), some (.int v1), some (.int v2), some (.int v3)] (by decide) rfl (Nat.le_of_ble_eq_true rfl) ?_
  unfold fA_isFrontSet at h
  refine g_iload_n 1 (i := 3) dA_isFrontSet_0 rfl rfl rfl ?_
  by_cases c1 : v3 = (0 : Int32)
  · rw [if_pos c1] at h
    refine g_if_eq_t 20 dA_isFrontSet_1 (by decide) c1 ?_
    refine g_iconst 21 (0 : Int32) dA_isFrontSet_20 rfl (by decide) ?_
    obtain rfl := Option.some.inj h
    exact g_zret rfl (by decide) dA_isFrontSet_21 hK
  · rw [if_neg c1] at h
    refine g_if_eq_f 4 20 dA_isFrontSet_1 (by decide) rfl c1 ?_
    refine g_aload_n 5 (i := 0) dA_isFrontSet_4 rfl rfl rfl ?_
    obtain ⟨t2, e2, h⟩ := x_bind h
    refine g_getfR 8 0 0 dA_isFrontSet_5 rfl x_in0 tw_1_115 rfl (by decide) e2 ?_
    obtain ⟨t3, e3, h⟩ := x_bind h
    refine g_getfR 11 2 0 dA_isFrontSet_8 rfl x_in2 tw_1_57 rfl (by decide) e3 ?_
    refine g_iload_n 12 (i := 1) dA_isFrontSet_11 rfl rfl rfl ?_
    refine g_iload_n 13 (i := 2) dA_isFrontSet_12 rfl rfl rfl ?_
    refine g_iload_n 14 (i := 3) dA_isFrontSet_13 rfl rfl rfl ?_
    obtain ⟨_, e4, h⟩ := x_bind h
    obtain ⟨t5, e5, h⟩ := x_bind h
    refine g_cV 17 (some (.int t5)) w [.int v1, .int v2, .int v3] [] dA_isFrontSet_14 rfl (fun _ hK2 => mR_leadsPast (d - 1) (by omega) e5 hK2) (x_ob_some e4) kA_208 (x_rm (Nat.le_trans (by decide) hd) (by decide)) ⟨Nat.zero_le _, Nat.zero_le _⟩ (Nat.le_of_ble_eq_true rfl) rfl ?_
    by_cases c6 : t5 = (0 : Int32)
    · rw [if_pos c6] at h
      refine g_if_eq_t 22 dA_isFrontSet_17 (by decide) c6 ?_
      refine g_aload_n 23 (i := 0) dA_isFrontSet_22 rfl rfl rfl ?_
      obtain ⟨t7, e7, h⟩ := x_bind h
      refine g_getfR 26 0 2 dA_isFrontSet_23 rfl x_in0 tw_1_117 rfl (by decide) e7 ?_
      refine g_aload_n 27 (i := 0) dA_isFrontSet_26 rfl rfl rfl ?_
      refine g_getfR 30 0 0 dA_isFrontSet_27 rfl x_in0 tw_1_115 rfl (by decide) e2 ?_
      refine g_getfR 33 2 0 dA_isFrontSet_30 rfl x_in2 tw_1_57 rfl (by decide) e3 ?_
      refine g_iconst 34 (1 : Int32) dA_isFrontSet_33 rfl (by decide) ?_
      refine g_iload_n 35 (i := 1) dA_isFrontSet_34 rfl rfl rfl ?_
      refine g_ishl 36 dA_isFrontSet_35 rfl ?_
      obtain ⟨_, e8, h⟩ := x_bind h
      obtain ⟨w9, e9, h⟩ := x_bind h
      refine g_cV 39 none w9 [.ref t3, .int ((1 : Int32) <<< (v1 &&& 31))] [] dA_isFrontSet_36 rfl (fun _ hK2 => mR_copyWithout (d - 1) (by omega) e9 hK2) (x_ob_some e8) kA_204 (x_rm (Nat.le_trans (by decide) hd) (by decide)) ⟨Nat.zero_le _, Nat.zero_le _⟩ (Nat.le_of_ble_eq_true rfl) rfl ?_
      refine g_aload_n 40 (i := 0) dA_isFrontSet_39 rfl rfl rfl ?_
      obtain ⟨t10, e10, h⟩ := x_bind h
      refine g_getfR 43 0 2 dA_isFrontSet_40 rfl x_in0 tw_1_117 rfl (by decide) e10 ?_
      refine g_iload_n 44 (i := 3) dA_isFrontSet_43 rfl rfl rfl ?_
      refine g_iload_n 45 (i := 1) dA_isFrontSet_44 rfl rfl rfl ?_
      refine g_iconst 46 (0 : Int32) dA_isFrontSet_45 rfl (by decide) ?_
      obtain ⟨t11, e11, h⟩ := x_bind h
      refine g_cS 49 (some (.int t11)) w9 [.ref t10, .int v3, .int v1, .int (0 : Int32)] [] dA_isFrontSet_46 rfl (fun _ hK2 => mA_isEachParted (d - 1) (by omega) e11 hK2) kA_211 (x_rm (Nat.le_trans (by decide) hd) (by decide)) ⟨Nat.zero_le _, Nat.zero_le _⟩ (Nat.le_of_ble_eq_true rfl) rfl ?_
      by_cases c12 : t11 = (0 : Int32)
      · rw [if_pos c12] at h
        refine g_if_ne_f 52 54 dA_isFrontSet_49 (by decide) rfl c12 ?_
        refine g_iconst 53 (0 : Int32) dA_isFrontSet_52 rfl (by decide) ?_
        obtain rfl := Option.some.inj h
        exact g_zret rfl (by decide) dA_isFrontSet_53 hK
      · rw [if_neg c12] at h
        refine g_if_ne_t 54 dA_isFrontSet_49 (by decide) c12 ?_
        refine g_aload_n 55 (i := 0) dA_isFrontSet_54 rfl rfl rfl ?_
        refine g_getfR 58 0 2 dA_isFrontSet_55 rfl x_in0 tw_1_117 rfl (by decide) e10 ?_
        refine g_aload_n 59 (i := 0) dA_isFrontSet_58 rfl rfl rfl ?_
        obtain ⟨t13, e13, h⟩ := x_bind h
        refine g_getfR 62 0 0 dA_isFrontSet_59 rfl x_in0 tw_1_115 rfl (by decide) e13 ?_
        obtain ⟨t14, e14, h⟩ := x_bind h
        refine g_getfR 65 2 0 dA_isFrontSet_62 rfl x_in2 tw_1_57 rfl (by decide) e14 ?_
        refine g_iload_n 66 (i := 3) dA_isFrontSet_65 rfl rfl rfl ?_
        obtain ⟨_, e15, h⟩ := x_bind h
        obtain ⟨w16, e16, h⟩ := x_bind h
        refine g_cV 69 none w16 [.ref t14, .int v3] [] dA_isFrontSet_66 rfl (fun _ hK2 => mR_copyWithout (d - 1) (by omega) e16 hK2) (x_ob_some e15) kA_204 (x_rm (Nat.le_trans (by decide) hd) (by decide)) ⟨Nat.zero_le _, Nat.zero_le _⟩ (Nat.le_of_ble_eq_true rfl) rfl ?_
        refine g_aload_n 70 (i := 0) dA_isFrontSet_69 rfl rfl rfl ?_
        obtain ⟨t17, e17, h⟩ := x_bind h
        refine g_getfR 73 0 2 dA_isFrontSet_70 rfl x_in0 tw_1_117 rfl (by decide) e17 ?_
        refine g_iload_n 74 (i := 3) dA_isFrontSet_73 rfl rfl rfl ?_
        refine g_iload_n 75 (i := 2) dA_isFrontSet_74 rfl rfl rfl ?_
        refine g_iconst 76 (1 : Int32) dA_isFrontSet_75 rfl (by decide) ?_
        refine g_iload_n 77 (i := 1) dA_isFrontSet_76 rfl rfl rfl ?_
        refine g_ishl 78 dA_isFrontSet_77 rfl ?_
        obtain ⟨t18, e18, h⟩ := x_bind h
        refine g_cS 81 (some (.int t18)) w16 [.ref t17, .int v3, .int v2, .int ((1 : Int32) <<< (v1 &&& 31))] [] dA_isFrontSet_78 rfl (fun _ hK2 => mA_isEachParted (d - 1) (by omega) e18 hK2) kA_211 (x_rm (Nat.le_trans (by decide) hd) (by decide)) ⟨Nat.zero_le _, Nat.zero_le _⟩ (Nat.le_of_ble_eq_true rfl) rfl ?_
        have c19 : t18 = 0 ∨ t18 = 1 := by
          by_cases c : t18 = 0 ∨ t18 = 1
          · exact c
          · rw [if_neg c] at h; cases h
        rw [if_pos c19] at h
        obtain rfl := Option.some.inj h
        exact g_zret rfl c19 dA_isFrontSet_81 hK
    · rw [if_neg c6] at h
      refine g_if_eq_f 20 22 dA_isFrontSet_17 (by decide) rfl c6 ?_
      refine g_iconst 21 (0 : Int32) dA_isFrontSet_20 rfl (by decide) ?_
      obtain rfl := Option.some.inj h
      exact g_zret rfl (by decide) dA_isFrontSet_21 hK
/-! ActSurgery.isInstrument(III)Z: level X -/
theorem dA_isInstrument_0 : decode cA_isInstrument 0 = .ok (.iload_n 3, 1) := by decide +kernel
theorem dA_isInstrument_1 : decode cA_isInstrument 1 = .ok (.invokestatic 215, 3) := by decide +kernel
theorem dA_isInstrument_4 : decode cA_isInstrument 4 = .ok (.iconst 1, 1) := by decide +kernel
theorem dA_isInstrument_5 : decode cA_isInstrument 5 = .ok (.if_icmp .ne 19, 3) := by decide +kernel
theorem dA_isInstrument_8 : decode cA_isInstrument 8 = .ok (.aload_n 0, 1) := by decide +kernel
theorem dA_isInstrument_9 : decode cA_isInstrument 9 = .ok (.getfield 10, 3) := by decide +kernel
theorem dA_isInstrument_12 : decode cA_isInstrument 12 = .ok (.getfield 43, 3) := by decide +kernel
theorem dA_isInstrument_15 : decode cA_isInstrument 15 = .ok (.iload_n 3, 1) := by decide +kernel
theorem dA_isInstrument_16 : decode cA_isInstrument 16 = .ok (.iload_n 1, 1) := by decide +kernel
theorem dA_isInstrument_17 : decode cA_isInstrument 17 = .ok (.iconst 0, 1) := by decide +kernel
theorem dA_isInstrument_18 : decode cA_isInstrument 18 = .ok (.invokestatic 211, 3) := by decide +kernel
theorem dA_isInstrument_21 : decode cA_isInstrument 21 = .ok (.ifCond .eq 5, 3) := by decide +kernel
theorem dA_isInstrument_24 : decode cA_isInstrument 24 = .ok (.iconst 0, 1) := by decide +kernel
theorem dA_isInstrument_25 : decode cA_isInstrument 25 = .ok (.ireturn, 1) := by decide +kernel
theorem dA_isInstrument_26 : decode cA_isInstrument 26 = .ok (.aload_n 0, 1) := by decide +kernel
theorem dA_isInstrument_27 : decode cA_isInstrument 27 = .ok (.getfield 22, 3) := by decide +kernel
theorem dA_isInstrument_30 : decode cA_isInstrument 30 = .ok (.aload_n 0, 1) := by decide +kernel
theorem dA_isInstrument_31 : decode cA_isInstrument 31 = .ok (.getfield 10, 3) := by decide +kernel
theorem dA_isInstrument_34 : decode cA_isInstrument 34 = .ok (.getfield 43, 3) := by decide +kernel
theorem dA_isInstrument_37 : decode cA_isInstrument 37 = .ok (.iconst 1, 1) := by decide +kernel
theorem dA_isInstrument_38 : decode cA_isInstrument 38 = .ok (.iload_n 1, 1) := by decide +kernel
theorem dA_isInstrument_39 : decode cA_isInstrument 39 = .ok (.ishl, 1) := by decide +kernel
theorem dA_isInstrument_40 : decode cA_isInstrument 40 = .ok (.invokevirtual 204, 3) := by decide +kernel
theorem dA_isInstrument_43 : decode cA_isInstrument 43 = .ok (.aload_n 0, 1) := by decide +kernel
theorem dA_isInstrument_44 : decode cA_isInstrument 44 = .ok (.getfield 22, 3) := by decide +kernel
theorem dA_isInstrument_47 : decode cA_isInstrument 47 = .ok (.iload_n 3, 1) := by decide +kernel
theorem dA_isInstrument_48 : decode cA_isInstrument 48 = .ok (.iload_n 2, 1) := by decide +kernel
theorem dA_isInstrument_49 : decode cA_isInstrument 49 = .ok (.iconst 0, 1) := by decide +kernel
theorem dA_isInstrument_50 : decode cA_isInstrument 50 = .ok (.invokestatic 211, 3) := by decide +kernel
theorem dA_isInstrument_53 : decode cA_isInstrument 53 = .ok (.ireturn, 1) := by decide +kernel
def fA_isInstrument  (w : x_W) (v0 : Nat) (v1 : Int32) (v2 : Int32) (v3 : Int32) : Option (Int32 × x_W) :=
  if (fI_bitCount v3) = (1 : Int32) then
    (x_fr w v0 0 0).bind fun t2 =>
    (x_fr w t2 2 0).bind fun t3 =>
    (fA_isEachParted w t3 v3 v1 (0 : Int32)).bind fun t4 =>
    if t4 = (0 : Int32) then
      (x_fr w v0 0 2).bind fun t6 =>
      (x_ob w t6 1).bind fun _ =>
      (fR_copyWithout w t6 t3 ((1 : Int32) <<< (v1 &&& 31))).bind fun w8 =>
      (x_fr w8 v0 0 2).bind fun t9 =>
      (fA_isEachParted w8 t9 v3 v2 (0 : Int32)).bind fun t10 =>
      if t10 = 0 ∨ t10 = 1 then some (t10, w8) else none
    else
      some ((0 : Int32), w)
  else
    some ((0 : Int32), w)
set_option maxHeartbeats 4000000 in
set_option maxRecDepth 100000 in
theorem mA_isInstrument (d : Nat) (hd : 14 ≤ d) {K : Option Value → x_W → Prop} {w : x_W} {v0 : Nat} {v1 : Int32} {v2 : Int32} {v3 : Int32} {r : (Int32 × x_W)} (h : fA_isInstrument w v0 v1 v2 v3 = some r) (hK : K (some (.int r.1)) r.2) : x_M yA_isInstrument cA_isInstrument 4 (some .boolean) d 0 0 [.ref v0, .int v1, .int v2, .int v3] w K := by
  refine x_M.of [some (.ref v0), some (.int v1), some (.int v2), some (.int v3)] (by decide) rfl (Nat.le_of_ble_eq_true rfl) ?_
  unfold fA_isInstrument at h
  refine g_iload_n 1 (i := 3) dA_isInstrument_0 rfl rfl rfl ?_
  refine g_cS 4 (some (.int (fI_bitCount v3))) w [.int v3] [] dA_isInstrument_1 rfl (fun _ hK2 => mI_bitCount (d - 1) (by omega) rfl hK2) kA_215 (x_rm (Nat.le_trans (by decide) hd) (by decide)) ⟨Nat.zero_le _, Nat.zero_le _⟩ (Nat.le_of_ble_eq_true rfl) rfl ?_
  refine g_iconst 5 (1 : Int32) dA_isInstrument_4 rfl (by decide) ?_
  by_cases c1 : (fI_bitCount v3) = (1 : Int32)
  · rw [if_pos c1] at h
    refine g_icmp_ne_f 8 24 dA_isInstrument_5 (by decide) rfl c1 ?_
    refine g_aload_n 9 (i := 0) dA_isInstrument_8 rfl rfl rfl ?_
    obtain ⟨t2, e2, h⟩ := x_bind h
    refine g_getfR 12 0 0 dA_isInstrument_9 rfl x_in0 tw_1_115 rfl (by decide) e2 ?_
    obtain ⟨t3, e3, h⟩ := x_bind h
    refine g_getfR 15 2 0 dA_isInstrument_12 rfl x_in2 tw_1_57 rfl (by decide) e3 ?_
    refine g_iload_n 16 (i := 3) dA_isInstrument_15 rfl rfl rfl ?_
    refine g_iload_n 17 (i := 1) dA_isInstrument_16 rfl rfl rfl ?_
    refine g_iconst 18 (0 : Int32) dA_isInstrument_17 rfl (by decide) ?_
    obtain ⟨t4, e4, h⟩ := x_bind h
    refine g_cS 21 (some (.int t4)) w [.ref t3, .int v3, .int v1, .int (0 : Int32)] [] dA_isInstrument_18 rfl (fun _ hK2 => mA_isEachParted (d - 1) (by omega) e4 hK2) kA_211 (x_rm (Nat.le_trans (by decide) hd) (by decide)) ⟨Nat.zero_le _, Nat.zero_le _⟩ (Nat.le_of_ble_eq_true rfl) rfl ?_
    by_cases c5 : t4 = (0 : Int32)
    · rw [if_pos c5] at h
      refine g_if_eq_t 26 dA_isInstrument_21 (by decide) c5 ?_
      refine g_aload_n 27 (i := 0) dA_isInstrument_26 rfl rfl rfl ?_
      obtain ⟨t6, e6, h⟩ := x_bind h
      refine g_getfR 30 0 2 dA_isInstrument_27 rfl x_in0 tw_1_117 rfl (by decide) e6 ?_
      refine g_aload_n 31 (i := 0) dA_isInstrument_30 rfl rfl rfl ?_
      refine g_getfR 34 0 0 dA_isInstrument_31 rfl x_in0 tw_1_115 rfl (by decide) e2 ?_
      refine g_getfR 37 2 0 dA_isInstrument_34 rfl x_in2 tw_1_57 rfl (by decide) e3 ?_
      refine g_iconst 38 (1 : Int32) dA_isInstrument_37 rfl (by decide) ?_
      refine g_iload_n 39 (i := 1) dA_isInstrument_38 rfl rfl rfl ?_
      refine g_ishl 40 dA_isInstrument_39 rfl ?_
      obtain ⟨_, e7, h⟩ := x_bind h
      obtain ⟨w8, e8, h⟩ := x_bind h
      refine g_cV 43 none w8 [.ref t3, .int ((1 : Int32) <<< (v1 &&& 31))] [] dA_isInstrument_40 rfl (fun _ hK2 => mR_copyWithout (d - 1) (by omega) e8 hK2) (x_ob_some e7) kA_204 (x_rm (Nat.le_trans (by decide) hd) (by decide)) ⟨Nat.zero_le _, Nat.zero_le _⟩ (Nat.le_of_ble_eq_true rfl) rfl ?_
      refine g_aload_n 44 (i := 0) dA_isInstrument_43 rfl rfl rfl ?_
      obtain ⟨t9, e9, h⟩ := x_bind h
      refine g_getfR 47 0 2 dA_isInstrument_44 rfl x_in0 tw_1_117 rfl (by decide) e9 ?_
      refine g_iload_n 48 (i := 3) dA_isInstrument_47 rfl rfl rfl ?_
      refine g_iload_n 49 (i := 2) dA_isInstrument_48 rfl rfl rfl ?_
      refine g_iconst 50 (0 : Int32) dA_isInstrument_49 rfl (by decide) ?_
      obtain ⟨t10, e10, h⟩ := x_bind h
      refine g_cS 53 (some (.int t10)) w8 [.ref t9, .int v3, .int v2, .int (0 : Int32)] [] dA_isInstrument_50 rfl (fun _ hK2 => mA_isEachParted (d - 1) (by omega) e10 hK2) kA_211 (x_rm (Nat.le_trans (by decide) hd) (by decide)) ⟨Nat.zero_le _, Nat.zero_le _⟩ (Nat.le_of_ble_eq_true rfl) rfl ?_
      have c11 : t10 = 0 ∨ t10 = 1 := by
        by_cases c : t10 = 0 ∨ t10 = 1
        · exact c
        · rw [if_neg c] at h; cases h
      rw [if_pos c11] at h
      obtain rfl := Option.some.inj h
      exact g_zret rfl c11 dA_isInstrument_53 hK
    · rw [if_neg c5] at h
      refine g_if_eq_f 24 26 dA_isInstrument_21 (by decide) rfl c5 ?_
      refine g_iconst 25 (0 : Int32) dA_isInstrument_24 rfl (by decide) ?_
      obtain rfl := Option.some.inj h
      exact g_zret rfl (by decide) dA_isInstrument_25 hK
  · rw [if_neg c1] at h
    refine g_icmp_ne_t 24 dA_isInstrument_5 (by decide) c1 ?_
    refine g_iconst 25 (0 : Int32) dA_isInstrument_24 rfl (by decide) ?_
    obtain rfl := Option.some.inj h
    exact g_zret rfl (by decide) dA_isInstrument_25 hK
/-! ActSurgery.isTelling(IIII)Z: level X -/
theorem dA_isTelling_0 : decode cA_isTelling 0 = .ok (.iload_n 1, 1) := by decide +kernel
theorem dA_isTelling_1 : decode cA_isTelling 1 = .ok (.lookupswitch 45 #[(0, 27), (1, 36)], 27) := by decide +kernel
theorem dA_isTelling_28 : decode cA_isTelling 28 = .ok (.aload_n 0, 1) := by decide +kernel
theorem dA_isTelling_29 : decode cA_isTelling 29 = .ok (.iload_n 2, 1) := by decide +kernel
theorem dA_isTelling_30 : decode cA_isTelling 30 = .ok (.iload_n 3, 1) := by decide +kernel
theorem dA_isTelling_31 : decode cA_isTelling 31 = .ok (.iload 4, 2) := by decide +kernel
theorem dA_isTelling_33 : decode cA_isTelling 33 = .ok (.invokevirtual 195, 3) := by decide +kernel
theorem dA_isTelling_36 : decode cA_isTelling 36 = .ok (.ireturn, 1) := by decide +kernel
theorem dA_isTelling_37 : decode cA_isTelling 37 = .ok (.aload_n 0, 1) := by decide +kernel
theorem dA_isTelling_38 : decode cA_isTelling 38 = .ok (.iload_n 2, 1) := by decide +kernel
theorem dA_isTelling_39 : decode cA_isTelling 39 = .ok (.iload_n 3, 1) := by decide +kernel
theorem dA_isTelling_40 : decode cA_isTelling 40 = .ok (.iload 4, 2) := by decide +kernel
theorem dA_isTelling_42 : decode cA_isTelling 42 = .ok (.invokevirtual 198, 3) := by decide +kernel
theorem dA_isTelling_45 : decode cA_isTelling 45 = .ok (.ireturn, 1) := by decide +kernel
theorem dA_isTelling_46 : decode cA_isTelling 46 = .ok (.aload_n 0, 1) := by decide +kernel
theorem dA_isTelling_47 : decode cA_isTelling 47 = .ok (.iload_n 2, 1) := by decide +kernel
theorem dA_isTelling_48 : decode cA_isTelling 48 = .ok (.iload_n 3, 1) := by decide +kernel
theorem dA_isTelling_49 : decode cA_isTelling 49 = .ok (.iload 4, 2) := by decide +kernel
theorem dA_isTelling_51 : decode cA_isTelling 51 = .ok (.invokevirtual 201, 3) := by decide +kernel
theorem dA_isTelling_54 : decode cA_isTelling 54 = .ok (.ireturn, 1) := by decide +kernel
theorem tw_2_96 : (Jvm.Cond.instanceMethod ({ cls := "ActSurgery", name := "isBackSet", desc := "(III)Z" } : Jvm.MethodName)) ∈ x_GT := x_t2 96 rfl rfl
theorem tws_18 : (Jvm.Cond.selects "ActSurgery" ({ cls := "ActSurgery", name := "isBackSet", desc := "(III)Z" } : Jvm.MethodName) ({ cls := "ActSurgery", name := "isBackSet", desc := "(III)Z" } : Jvm.MethodName)) ∈ x_GT := x_ts 18 rfl rfl
theorem tw_2_97 : (Jvm.Cond.code ({ cls := "ActSurgery", name := "isBackSet", desc := "(III)Z" } : Jvm.MethodName) prog_1_method_32_code (4 : Nat) (Option.some Jvm.ClassFile.FieldType.boolean)) ∈ x_GT := x_t2 97 rfl rfl
theorem tw_2_94 : (Jvm.Cond.methodLink "ActSurgery" (195 : Nat) ({ cls := "ActSurgery", name := "isBackSet", desc := "(III)Z" } : Jvm.MethodName)) ∈ x_GT := x_t2 94 rfl rfl
theorem kA_195 : x_kV "ActSurgery" 195 yA_isBackSet cA_isBackSet 4 (some .boolean) 3 0 := ⟨tw_2_96, tws_18, tw_2_97, tw_1_1, tw_2_94, (by decide +kernel), rfl⟩
theorem tw_2_104 : (Jvm.Cond.instanceMethod ({ cls := "ActSurgery", name := "isFrontSet", desc := "(III)Z" } : Jvm.MethodName)) ∈ x_GT := x_t2 104 rfl rfl
theorem tws_19 : (Jvm.Cond.selects "ActSurgery" ({ cls := "ActSurgery", name := "isFrontSet", desc := "(III)Z" } : Jvm.MethodName) ({ cls := "ActSurgery", name := "isFrontSet", desc := "(III)Z" } : Jvm.MethodName)) ∈ x_GT := x_ts 19 rfl rfl
theorem tw_2_105 : (Jvm.Cond.code ({ cls := "ActSurgery", name := "isFrontSet", desc := "(III)Z" } : Jvm.MethodName) prog_1_method_33_code (4 : Nat) (Option.some Jvm.ClassFile.FieldType.boolean)) ∈ x_GT := x_t2 105 rfl rfl
theorem tw_2_102 : (Jvm.Cond.methodLink "ActSurgery" (198 : Nat) ({ cls := "ActSurgery", name := "isFrontSet", desc := "(III)Z" } : Jvm.MethodName)) ∈ x_GT := x_t2 102 rfl rfl
theorem kA_198 : x_kV "ActSurgery" 198 yA_isFrontSet cA_isFrontSet 4 (some .boolean) 3 0 := ⟨tw_2_104, tws_19, tw_2_105, tw_1_1, tw_2_102, (by decide +kernel), rfl⟩
theorem tw_2_115 : (Jvm.Cond.instanceMethod ({ cls := "ActSurgery", name := "isInstrument", desc := "(III)Z" } : Jvm.MethodName)) ∈ x_GT := x_t2 115 rfl rfl
theorem tws_20 : (Jvm.Cond.selects "ActSurgery" ({ cls := "ActSurgery", name := "isInstrument", desc := "(III)Z" } : Jvm.MethodName) ({ cls := "ActSurgery", name := "isInstrument", desc := "(III)Z" } : Jvm.MethodName)) ∈ x_GT := x_ts 20 rfl rfl
theorem tw_2_116 : (Jvm.Cond.code ({ cls := "ActSurgery", name := "isInstrument", desc := "(III)Z" } : Jvm.MethodName) prog_1_method_35_code (4 : Nat) (Option.some Jvm.ClassFile.FieldType.boolean)) ∈ x_GT := x_t2 116 rfl rfl
theorem tw_2_113 : (Jvm.Cond.methodLink "ActSurgery" (201 : Nat) ({ cls := "ActSurgery", name := "isInstrument", desc := "(III)Z" } : Jvm.MethodName)) ∈ x_GT := x_t2 113 rfl rfl
theorem kA_201 : x_kV "ActSurgery" 201 yA_isInstrument cA_isInstrument 4 (some .boolean) 3 0 := ⟨tw_2_115, tws_20, tw_2_116, tw_1_1, tw_2_113, (by decide +kernel), rfl⟩
def fA_isTelling  (w : x_W) (v0 : Nat) (v1 : Int32) (v2 : Int32) (v3 : Int32) (v4 : Int32) : Option (Int32 × x_W) :=
  if v1 = (0 : Int32) then
    (x_ob w v0 0).bind fun _ =>
    (fA_isBackSet w v0 v2 v3 v4).bind fun q3 =>
    if q3.1 = 0 ∨ q3.1 = 1 then some (q3.1, q3.2) else none
  else
  if v1 = (1 : Int32) then
    (x_ob w v0 0).bind fun _ =>
    (fA_isFrontSet w v0 v2 v3 v4).bind fun q7 =>
    if q7.1 = 0 ∨ q7.1 = 1 then some (q7.1, q7.2) else none
  else
    (x_ob w v0 0).bind fun _ =>
    (fA_isInstrument w v0 v2 v3 v4).bind fun q10 =>
    if q10.1 = 0 ∨ q10.1 = 1 then some (q10.1, q10.2) else none
set_option maxHeartbeats 4000000 in
set_option maxRecDepth 100000 in
theorem mA_isTelling (d : Nat) (hd : 15 ≤ d) {K : Option Value → x_W → Prop} {w : x_W} {v0 : Nat} {v1 : Int32} {v2 : Int32} {v3 : Int32} {v4 : Int32} {r : (Int32 × x_W)} (h : fA_isTelling w v0 v1 v2 v3 v4 = some r) (hK : K (some (.int r.1)) r.2) : x_M yA_isTelling cA_isTelling 5 (some .boolean) d 0 0 [.ref v0, .int v1, .int v2, .int v3, .int v4] w K := by
  refine x_M.of [some (.ref v0), some (.int v1), some (.int v2), some (.int v3), some (.int v4)] (by decide) rfl (Nat.le_of_ble_eq_true rfl) ?_
  unfold fA_isTelling at h
  refine g_iload_n 1 (i := 1) dA_isTelling_0 rfl rfl rfl ?_
  by_cases c1 : v1 = (0 : Int32)
  · rw [if_pos c1] at h
    refine g_lookup 28 (off := 27) dA_isTelling_1 (by decide) (by rw [c1]; decide) (by decide) ?_
    refine g_aload_n 29 (i := 0) dA_isTelling_28 rfl rfl rfl ?_
    refine g_iload_n 30 (i := 2) dA_isTelling_29 rfl rfl rfl ?_
    refine g_iload_n 31 (i := 3) dA_isTelling_30 rfl rfl rfl ?_
    refine g_iload 33 dA_isTelling_31 rfl rfl ?_
    obtain ⟨_, e2, h⟩ := x_bind h
    obtain ⟨q3, e3, h⟩ := x_bind h
    refine g_cV 36 (some (.int q3.1)) q3.2 [.int v2, .int v3, .int v4] [] dA_isTelling_33 rfl (fun _ hK2 => mA_isBackSet (d - 1) (by omega) e3 hK2) (x_ob_some e2) kA_195 (x_rm (Nat.le_trans (by decide) hd) (by decide)) ⟨Nat.zero_le _, Nat.zero_le _⟩ (Nat.le_of_ble_eq_true rfl) rfl ?_
    have c4 : q3.1 = 0 ∨ q3.1 = 1 := by
      by_cases c : q3.1 = 0 ∨ q3.1 = 1
      · exact c
      · rw [if_neg c] at h; cases h
    rw [if_pos c4] at h
    obtain rfl := Option.some.inj h
    exact g_zret rfl c4 dA_isTelling_36 hK
  · rw [if_neg c1] at h
    by_cases c5 : v1 = (1 : Int32)
    · rw [if_pos c5] at h
      refine g_lookup 37 (off := 36) dA_isTelling_1 (by decide) (by rw [c5]; decide) (by decide) ?_
      refine g_aload_n 38 (i := 0) dA_isTelling_37 rfl rfl rfl ?_
      refine g_iload_n 39 (i := 2) dA_isTelling_38 rfl rfl rfl ?_
      refine g_iload_n 40 (i := 3) dA_isTelling_39 rfl rfl rfl ?_
      refine g_iload 42 dA_isTelling_40 rfl rfl ?_
      obtain ⟨_, e6, h⟩ := x_bind h
      obtain ⟨q7, e7, h⟩ := x_bind h
      refine g_cV 45 (some (.int q7.1)) q7.2 [.int v2, .int v3, .int v4] [] dA_isTelling_42 rfl (fun _ hK2 => mA_isFrontSet (d - 1) (by omega) e7 hK2) (x_ob_some e6) kA_198 (x_rm (Nat.le_trans (by decide) hd) (by decide)) ⟨Nat.zero_le _, Nat.zero_le _⟩ (Nat.le_of_ble_eq_true rfl) rfl ?_
      have c8 : q7.1 = 0 ∨ q7.1 = 1 := by
        by_cases c : q7.1 = 0 ∨ q7.1 = 1
        · exact c
        · rw [if_neg c] at h; cases h
      rw [if_pos c8] at h
      obtain rfl := Option.some.inj h
      exact g_zret rfl c8 dA_isTelling_45 hK
    · rw [if_neg c5] at h
      have q1 := lv_neT (a := 0) c1 (by decide)
      have q5 := lv_neT (a := 1) c5 (by decide)
      refine g_lookup 46 (off := 45) dA_isTelling_1 (by decide) ((lv_osw (k := (0 : Int32)) c1 (by decide)).trans ((lv_osw (k := (1 : Int32)) c5 (by decide)).trans (rfl))) (by decide) ?_
      refine g_aload_n 47 (i := 0) dA_isTelling_46 rfl rfl rfl ?_
      refine g_iload_n 48 (i := 2) dA_isTelling_47 rfl rfl rfl ?_
      refine g_iload_n 49 (i := 3) dA_isTelling_48 rfl rfl rfl ?_
      refine g_iload 51 dA_isTelling_49 rfl rfl ?_
      obtain ⟨_, e9, h⟩ := x_bind h
      obtain ⟨q10, e10, h⟩ := x_bind h
      refine g_cV 54 (some (.int q10.1)) q10.2 [.int v2, .int v3, .int v4] [] dA_isTelling_51 rfl (fun _ hK2 => mA_isInstrument (d - 1) (by omega) e10 hK2) (x_ob_some e9) kA_201 (x_rm (Nat.le_trans (by decide) hd) (by decide)) ⟨Nat.zero_le _, Nat.zero_le _⟩ (Nat.le_of_ble_eq_true rfl) rfl ?_
      have c11 : q10.1 = 0 ∨ q10.1 = 1 := by
        by_cases c : q10.1 = 0 ∨ q10.1 = 1
        · exact c
        · rw [if_neg c] at h; cases h
      rw [if_pos c11] at h
      obtain rfl := Option.some.inj h
      exact g_zret rfl c11 dA_isTelling_54 hK
/-! ActSurgery.mayTell(II)I: level P -/
theorem dA_mayTell_0 : decode cA_mayTell 0 = .ok (.aload_n 0, 1) := by decide +kernel
theorem dA_mayTell_1 : decode cA_mayTell 1 = .ok (.invokevirtual 185, 3) := by decide +kernel
theorem dA_mayTell_4 : decode cA_mayTell 4 = .ok (.aload_n 0, 1) := by decide +kernel
theorem dA_mayTell_5 : decode cA_mayTell 5 = .ok (.getfield 10, 3) := by decide +kernel
theorem dA_mayTell_8 : decode cA_mayTell 8 = .ok (.getfield 82, 3) := by decide +kernel
theorem dA_mayTell_11 : decode cA_mayTell 11 = .ok (.iconst (-1), 1) := by decide +kernel
theorem dA_mayTell_12 : decode cA_mayTell 12 = .ok (.ixor, 1) := by decide +kernel
theorem dA_mayTell_13 : decode cA_mayTell 13 = .ok (.iand, 1) := by decide +kernel
theorem dA_mayTell_14 : decode cA_mayTell 14 = .ok (.iconst 1, 1) := by decide +kernel
theorem dA_mayTell_15 : decode cA_mayTell 15 = .ok (.iload_n 1, 1) := by decide +kernel
theorem dA_mayTell_16 : decode cA_mayTell 16 = .ok (.ishl, 1) := by decide +kernel
theorem dA_mayTell_17 : decode cA_mayTell 17 = .ok (.iconst (-1), 1) := by decide +kernel
theorem dA_mayTell_18 : decode cA_mayTell 18 = .ok (.ixor, 1) := by decide +kernel
theorem dA_mayTell_19 : decode cA_mayTell 19 = .ok (.iand, 1) := by decide +kernel
theorem dA_mayTell_20 : decode cA_mayTell 20 = .ok (.iconst 1, 1) := by decide +kernel
theorem dA_mayTell_21 : decode cA_mayTell 21 = .ok (.iload_n 2, 1) := by decide +kernel
theorem dA_mayTell_22 : decode cA_mayTell 22 = .ok (.ishl, 1) := by decide +kernel
theorem dA_mayTell_23 : decode cA_mayTell 23 = .ok (.iconst (-1), 1) := by decide +kernel
theorem dA_mayTell_24 : decode cA_mayTell 24 = .ok (.ixor, 1) := by decide +kernel
theorem dA_mayTell_25 : decode cA_mayTell 25 = .ok (.iand, 1) := by decide +kernel
theorem dA_mayTell_26 : decode cA_mayTell 26 = .ok (.ireturn, 1) := by decide +kernel
def fA_mayTell (w : x_W) (v0 : Nat) (v1 : Int32) (v2 : Int32) : Option Int32 :=
  (x_ob w v0 0).bind fun _ =>
  (fA_allPlaces w v0).bind fun t2 =>
  (x_fr w v0 0 0).bind fun t3 =>
  (x_fi w t3 2 2).bind fun t4 =>
  some (((t2 &&& (t4 ^^^ (-1 : Int32))) &&& (((1 : Int32) <<< (v1 &&& 31)) ^^^ (-1 : Int32))) &&& (((1 : Int32) <<< (v2 &&& 31)) ^^^ (-1 : Int32)))
set_option maxHeartbeats 4000000 in
set_option maxRecDepth 100000 in
theorem mA_mayTell (d : Nat) (hd : 3 ≤ d) {K : Option Value → x_W → Prop} {w : x_W} {v0 : Nat} {v1 : Int32} {v2 : Int32} {r : Int32} (h : fA_mayTell w v0 v1 v2 = some r) (hK : K (some (.int r)) w) : x_M yA_mayTell cA_mayTell 3 (some .int) d 0 0 [.ref v0, .int v1, .int v2] w K := by
  refine x_M.of [some (.ref v0), some (.int v1), some (.int v2)] (by decide) rfl (Nat.le_of_ble_eq_true rfl) ?_
  unfold fA_mayTell at h
  refine g_aload_n 1 (i := 0) dA_mayTell_0 rfl rfl rfl ?_
  obtain ⟨_, e1, h⟩ := x_bind h
  obtain ⟨t2, e2, h⟩ := x_bind h
  refine g_cV 4 (some (.int t2)) w [] [] dA_mayTell_1 rfl (fun _ hK2 => mA_allPlaces (d - 1) (by omega) e2 hK2) (x_ob_some e1) kA_185 (x_rm (Nat.le_trans (by decide) hd) (by decide)) ⟨Nat.zero_le _, Nat.zero_le _⟩ (Nat.le_of_ble_eq_true rfl) rfl ?_
  refine g_aload_n 5 (i := 0) dA_mayTell_4 rfl rfl rfl ?_
  obtain ⟨t3, e3, h⟩ := x_bind h
  refine g_getfR 8 0 0 dA_mayTell_5 rfl x_in0 tw_1_115 rfl (by decide) e3 ?_
  obtain ⟨t4, e4, h⟩ := x_bind h
  refine g_getfI 11 2 2 dA_mayTell_8 rfl x_in2 tw_1_60 rfl (by decide) e4 ?_
  refine g_iconst 12 (-1 : Int32) dA_mayTell_11 rfl (by decide) ?_
  refine g_ixor 13 dA_mayTell_12 rfl ?_
  refine g_iand 14 dA_mayTell_13 rfl ?_
  refine g_iconst 15 (1 : Int32) dA_mayTell_14 rfl (by decide) ?_
  refine g_iload_n 16 (i := 1) dA_mayTell_15 rfl rfl rfl ?_
  refine g_ishl 17 dA_mayTell_16 rfl ?_
  refine g_iconst 18 (-1 : Int32) dA_mayTell_17 rfl (by decide) ?_
  refine g_ixor 19 dA_mayTell_18 rfl ?_
  refine g_iand 20 dA_mayTell_19 rfl ?_
  refine g_iconst 21 (1 : Int32) dA_mayTell_20 rfl (by decide) ?_
  refine g_iload_n 22 (i := 2) dA_mayTell_21 rfl rfl rfl ?_
  refine g_ishl 23 dA_mayTell_22 rfl ?_
  refine g_iconst 24 (-1 : Int32) dA_mayTell_23 rfl (by decide) ?_
  refine g_ixor 25 dA_mayTell_24 rfl ?_
  refine g_iand 26 dA_mayTell_25 rfl ?_
  obtain rfl := Option.some.inj h
  exact g_iret rfl dA_mayTell_26 hK
